theorem q_0 : Cond.fieldLink RX8 22 "LiftFactorsModel" "w" "[J" ∈ uU := uU_in (by decide +kernel) (by decide +kernel)
theorem q_1 : Cond.fieldLink RX8 26 "LiftFactorsModel" "deg" "[I" ∈ uU := uU_in (by decide +kernel) (by decide +kernel)
def l_X8_trim_2 (a0 : Int32) (M : Mem) : Int32 → Option ((Int32) ⊕ (Int32)) := fun v1 =>
  if v1 < 0 then
    some (.inl v1)
  else
    Option.bind (ldJ M 41 (((24 : Int32) * a0) + v1)) fun v2 =>
    if v2 = (0 : Int64) then
      some (.inr (v1 + (-1)))
    else
      some (.inl v1)
def f_X8_trim (n : Nat) (a0 : Int32) (a1 : Int32) (M : Mem) : Option Mem :=
  Option.bind (lpF (l_X8_trim_2 a0 M) n a1) fun v4 =>
  Option.bind (stI M 42 a0 v4) fun v5 =>
  some v5
set_option maxRecDepth 100000 in
set_option maxHeartbeats 8000000 in
theorem b_X8_trim {p : Program} {l : Launch} {e : Env} {s : State} {m : MethodId} {args : Array Value} {below : List Frame} {meth : Method} {c : Code} {Q : State → Prop} {G : gG} {A : Nat → Prop} {adr : Nat → Nat} (cx : cX p s m args meth c cX8_trim none 4 yX8_trim.cls) (hi : adi adr) {n : Nat} {a0 : Int32} {a1 : Int32} {M M' : Mem} 
    (h : f_X8_trim n a0 a1 M = some M')
    (kr : ∀ (pc : Nat) (ls : Array Slot) (H : Heap) (locs : List Loc), decode cX8_trim pc = .ok (.return_, 1) → wH G A s.heap s (LL adr) (wf G adr M') H locs → W p l e { frames := 0, cells := 0, slots := 0, locals := 0 } s m args below meth c H locs 0 0 Q (F0 m pc ls []))
    {ls : Array Slot} {H : Heap} {locs : List Loc} (hl : lv_has ls 4 [(0, .ref (adr 36)), (1, .int a0), (2, .int a1)]) (hw : wH G A s.heap s (LL adr) (wf G adr M) H locs) : W p l e { frames := 0, cells := 0, slots := 0, locals := 0 } s m args below meth c H locs 0 0 Q (F0 m 0 ls []) := by
  obtain ⟨hx, hb, -, -, hown, hts, -⟩ := id cx
  have hown : s.vm.findClass RX8 = some m.cls := hown
  unfold f_X8_trim at h
  refine lv_iload_n hx hb dX8_trim_0 rfl (lv_at hl 2 rfl) ?_
  refine lv_istore_n (lv' := [(3, .int a1), (0, .ref (adr 36)), (1, .int a0), (2, .int a1)]) hx hb dX8_trim_1 rfl hl (by decide) rfl (fun ls hl => ?_)
  replace h := bnd h
  obtain ⟨v4, j3, h⟩ := h
  refine lp_W (Wst := fun (st : Int32) => ∀ (ls : Array Slot) (H : Heap) (locs : List Loc), lv_has ls 4 [(0, .ref (adr 36)), (1, .int a0), (3, .int st)] → wH G A s.heap s (LL adr) (wf G adr M) H locs → W p l e { frames := 0, cells := 0, slots := 0, locals := 0 } s m args below meth c H locs 0 0 Q (F0 m 2 ls [])) (fin := fun (r : Int32) => ∀ (ls : Array Slot) (H : Heap) (locs : List Loc), lv_has ls 4 [(0, .ref (adr 36)), (1, .int a0), (3, .int r)] → wH G A s.heap s (LL adr) (wf G adr M) H locs → W p l e { frames := 0, cells := 0, slots := 0, locals := 0 } s m args below meth c H locs 0 0 Q (F0 m 28 ls [])) ?_ n _ _ j3 ?_ _ _ _ (lv_sub hl [1, 2, 0] rfl) hw
  · clear h j3 hw hl
    intro v1 x h k1 k2 ls H locs hl hw
    (try dsimp only at k1 k2 hl hw ⊢)
    unfold l_X8_trim_2 at h
    (try dsimp only at h)
    refine lv_iload_n hx hb dX8_trim_2 rfl (lv_at hl 2 rfl) ?_
    refine lv_if_lt (tgt := 28) hx hb dX8_trim_3 (by decide) (fun hc => ?_) (fun hc => ?_)
    · replace h := ite_t hc h
      cases h
      exact k1 _ rfl _ _ _ (lv_sub hl [0, 1, 2] rfl) hw
    · replace h := ite_f hc h
      refine lv_aload_n hx hb dX8_trim_6 rfl (lv_at hl 0 rfl) ?_
      refine m_get (k := 36) (C := RX8) (T := TX8) (N := 18) (ref := "LiftFactorsModel") (v := .ref (adr 41)) hx hb hi hts inX8_u hown hw (by decide) rfl 7 (by decide) q_0 rfl rfl dX8_trim_7 ?_
      refine lv_bipush (v := (24 : Int32)) hx hb dX8_trim_10 (by decide) ?_
      refine lv_iload_n hx hb dX8_trim_12 rfl (lv_at hl 1 rfl) ?_
      refine lv_imul hx hb dX8_trim_13 ?_
      refine lv_iload_n hx hb dX8_trim_14 rfl (lv_at hl 2 rfl) ?_
      refine lv_iadd hx hb dX8_trim_15 ?_
      replace h := bnd h
      obtain ⟨v2, e2, h⟩ := h
      refine m_lald hx hb hi hw e2 dX8_trim_16 ?_
      refine lv_lconst (v := (0 : Int64)) hx hb dX8_trim_17 (by decide) ?_
      refine m_lcmp_ne (tgt := 28) hx hb dX8_trim_18 dX8_trim_19 (by decide) (fun hc => ?_) (fun hc => ?_)
      · replace h := ite_f hc h
        cases h
        exact k1 _ rfl _ _ _ (lv_sub hl [0, 1, 2] rfl) hw
      · replace h := ite_t hc h
        refine lv_iinc (v := v1 + (-1)) (lv' := [(3, .int (v1 + (-1))), (0, .ref (adr 36)), (1, .int a0)]) hx hb dX8_trim_22 hl (k := 2) rfl (inc_p _ (by decide)) (by decide) rfl (fun ls hl => ?_)
        refine lv_goto (tgt := 2) hx hb dX8_trim_25 (by decide) ?_
        cases h
        exact k2 _ rfl _ _ _ (lv_sub hl [1, 2, 0] rfl) hw
  · clear hw hl
    intro ls H locs hl hw
    (try dsimp only at hl hw ⊢)
    refine lv_aload_n hx hb dX8_trim_28 rfl (lv_at hl 0 rfl) ?_
    refine m_get (k := 36) (C := RX8) (T := TX8) (N := 18) (ref := "LiftFactorsModel") (v := .ref (adr 42)) hx hb hi hts inX8_u hown hw (by decide) rfl 8 (by decide) q_1 rfl rfl dX8_trim_29 ?_
    refine lv_iload_n hx hb dX8_trim_32 rfl (lv_at hl 1 rfl) ?_
    refine lv_iload_n hx hb dX8_trim_33 rfl (lv_at hl 2 rfl) ?_
    replace h := bnd h
    obtain ⟨v5, e5, h⟩ := h
    refine m_iast hx hb hi hw e5 dX8_trim_34 (fun H locs hw => ?_)
    cases h
    exact kr _ _ _ _ dX8_trim_35 hw
theorem cc_X8_trim {l : Launch} {G : gG} {adr : Nat → Nat} {sz : Nat} (hi : adi adr) {n : Nat} {a0 : Int32} {a1 : Int32} {M M' : Mem} (h : f_X8_trim n a0 a1 M = some M') : mV l yX8_trim cX8_trim 4 none { frames := 0, cells := 0, slots := 0, locals := 0 } G adr [.ref (adr 36), .int a0, .int a1] M sz M' := by
  refine wEnter (by decide) (Nat.le_of_ble_eq_true rfl) ?_
  intro p e s m below meth c ls cx hinit hl hsz hw
  exact b_X8_trim cx hi h (fun pc ls H locs hd hw => w_vret (post := fun (u : Mem) => u = M') (lf := fun u => (LL adr, wf G adr u)) cx.1 cx.2.1 cx.2.2.1 cx.2.2.2.2.2.2 M' hw rfl hd) hl hw
def f_X8_get (a0 : Int32) (a1 : Int32) (M : Mem) : Option Int64 :=
  Option.bind (ldI M 42 a0) fun v1 =>
  Option.bind (
    if a1 ≤ v1 then
      Option.bind (ldJ M 41 (((24 : Int32) * a0) + a1)) fun v2 =>
      some v2
    else
      some (0 : Int64)) fun v3 =>
  some v3
set_option maxRecDepth 100000 in
set_option maxHeartbeats 8000000 in
theorem b_X8_get {p : Program} {l : Launch} {e : Env} {s : State} {m : MethodId} {args : Array Value} {below : List Frame} {meth : Method} {c : Code} {Q : State → Prop} {G : gG} {A : Nat → Prop} {adr : Nat → Nat} (cx : cX p s m args meth c cX8_get (some .long) 3 yX8_get.cls) (hi : adi adr) {a0 : Int32} {a1 : Int32} {M : Mem} {r : Int64} 
    (h : f_X8_get a0 a1 M = some r)
    (kr : ∀ (pc : Nat) (ls : Array Slot) (H : Heap) (locs : List Loc), decode cX8_get pc = .ok (.lreturn, 1) → wH G A s.heap s (LL adr) (wf G adr M) H locs → W p l e { frames := 0, cells := 0, slots := 0, locals := 0 } s m args below meth c H locs 0 0 Q (F0 m pc ls [.long r]))
    {ls : Array Slot} {H : Heap} {locs : List Loc} (hl : lv_has ls 3 [(0, .ref (adr 36)), (1, .int a0), (2, .int a1)]) (hw : wH G A s.heap s (LL adr) (wf G adr M) H locs) : W p l e { frames := 0, cells := 0, slots := 0, locals := 0 } s m args below meth c H locs 0 0 Q (F0 m 0 ls []) := by
  obtain ⟨hx, hb, -, -, hown, hts, -⟩ := id cx
  have hown : s.vm.findClass RX8 = some m.cls := hown
  unfold f_X8_get at h
  refine lv_iload_n hx hb dX8_get_0 rfl (lv_at hl 2 rfl) ?_
  refine lv_aload_n hx hb dX8_get_1 rfl (lv_at hl 0 rfl) ?_
  refine m_get (k := 36) (C := RX8) (T := TX8) (N := 18) (ref := "LiftFactorsModel") (v := .ref (adr 42)) hx hb hi hts inX8_u hown hw (by decide) rfl 8 (by decide) q_1 rfl rfl dX8_get_2 ?_
  refine lv_iload_n hx hb dX8_get_5 rfl (lv_at hl 1 rfl) ?_
  replace h := bnd h
  obtain ⟨v1, e1, h⟩ := h
  refine m_iald hx hb hi hw e1 dX8_get_6 ?_
  replace h := bnd h
  obtain ⟨v3, j4, h⟩ := h
  have kj : ∀ (ls : Array Slot) (H : Heap) (locs : List Loc), lv_has ls 3 [] → wH G A s.heap s (LL adr) (wf G adr M) H locs → W p l e { frames := 0, cells := 0, slots := 0, locals := 0 } s m args below meth c H locs 0 0 Q (F0 m 25 ls [.long v3]) := by
    intro ls H locs hl hw
    cases h
    exact kr _ _ _ _ dX8_get_25 hw
  clear h
  replace h := j4
  clear j4
  refine lv_icmp_le (tgt := 14) hx hb dX8_get_7 (by decide) (fun hc => ?_) (fun hc => ?_)
  · replace h := ite_t hc h
    refine lv_aload_n hx hb dX8_get_14 rfl (lv_at hl 0 rfl) ?_
    refine m_get (k := 36) (C := RX8) (T := TX8) (N := 18) (ref := "LiftFactorsModel") (v := .ref (adr 41)) hx hb hi hts inX8_u hown hw (by decide) rfl 7 (by decide) q_0 rfl rfl dX8_get_15 ?_
    refine lv_bipush (v := (24 : Int32)) hx hb dX8_get_18 (by decide) ?_
    refine lv_iload_n hx hb dX8_get_20 rfl (lv_at hl 1 rfl) ?_
    refine lv_imul hx hb dX8_get_21 ?_
    refine lv_iload_n hx hb dX8_get_22 rfl (lv_at hl 2 rfl) ?_
    refine lv_iadd hx hb dX8_get_23 ?_
    replace h := bnd h
    obtain ⟨v2, e2, h⟩ := h
    refine m_lald hx hb hi hw e2 dX8_get_24 ?_
    cases h
    exact kj _ _ _ (lv_sub hl [] rfl) hw
  · replace h := ite_f hc h
    refine lv_lconst (v := (0 : Int64)) hx hb dX8_get_10 (by decide) ?_
    refine lv_goto (tgt := 25) hx hb dX8_get_11 (by decide) ?_
    cases h
    exact kj _ _ _ (lv_sub hl [] rfl) hw
theorem cc_X8_get {l : Launch} {G : gG} {adr : Nat → Nat} {sz : Nat} (hi : adi adr) {a0 : Int32} {a1 : Int32} {M : Mem} {r : Int64} (h : f_X8_get a0 a1 M = some r) : mL l yX8_get cX8_get 3 (some .long) { frames := 0, cells := 0, slots := 0, locals := 0 } G adr [.ref (adr 36), .int a0, .int a1] M sz r M := by
  refine wEnter (by decide) (Nat.le_of_ble_eq_true rfl) ?_
  intro p e s m below meth c ls cx hinit hl hsz hw
  exact b_X8_get cx hi h (fun pc ls H locs hd hw => w_lret (post := fun (r9 : Int64) (u : Mem) => r9 = r ∧ u = M) (lf := fun u => (LL adr, wf G adr u)) cx.1 cx.2.1 cx.2.2.1 cx.2.2.2.2.2.2 M hw ⟨rfl, rfl⟩ hd) hl hw
def l_X8_copy_2 (a0 : Int32) (a1 : Int32) : Mem × Int32 → Option ((Mem) ⊕ (Mem × Int32)) := fun (M1, v2) =>
  Option.bind (ldI M1 42 a0) fun v3 =>
  if v3 < v2 then
    some (.inl M1)
  else
    Option.bind (ldJ M1 41 (((24 : Int32) * a0) + v2)) fun v4 =>
    Option.bind (stJ M1 41 (((24 : Int32) * a1) + v2) v4) fun v5 =>
    some (.inr (v5, v2 + 1))
def f_X8_copy (n : Nat) (a0 : Int32) (a1 : Int32) (M : Mem) : Option Mem :=
  Option.bind (lpF (l_X8_copy_2 a0 a1) n (M, (0 : Int32))) fun M7 =>
  Option.bind (ldI M7 42 a0) fun v8 =>
  Option.bind (stI M7 42 a1 v8) fun v9 =>
  some v9
set_option maxRecDepth 100000 in
set_option maxHeartbeats 8000000 in
theorem b_X8_copy {p : Program} {l : Launch} {e : Env} {s : State} {m : MethodId} {args : Array Value} {below : List Frame} {meth : Method} {c : Code} {Q : State → Prop} {G : gG} {A : Nat → Prop} {adr : Nat → Nat} (cx : cX p s m args meth c cX8_copy none 4 yX8_copy.cls) (hi : adi adr) {n : Nat} {a0 : Int32} {a1 : Int32} {M M' : Mem} 
    (h : f_X8_copy n a0 a1 M = some M')
    (kr : ∀ (pc : Nat) (ls : Array Slot) (H : Heap) (locs : List Loc), decode cX8_copy pc = .ok (.return_, 1) → wH G A s.heap s (LL adr) (wf G adr M') H locs → W p l e { frames := 0, cells := 0, slots := 0, locals := 0 } s m args below meth c H locs 0 0 Q (F0 m pc ls []))
    {ls : Array Slot} {H : Heap} {locs : List Loc} (hl : lv_has ls 4 [(0, .ref (adr 36)), (1, .int a0), (2, .int a1)]) (hw : wH G A s.heap s (LL adr) (wf G adr M) H locs) : W p l e { frames := 0, cells := 0, slots := 0, locals := 0 } s m args below meth c H locs 0 0 Q (F0 m 0 ls []) := by
  obtain ⟨hx, hb, -, -, hown, hts, -⟩ := id cx
  have hown : s.vm.findClass RX8 = some m.cls := hown
  unfold f_X8_copy at h
  refine lv_iconst (v := (0 : Int32)) hx hb dX8_copy_0 (by decide) ?_
  refine lv_istore_n (lv' := [(3, .int (0 : Int32)), (0, .ref (adr 36)), (1, .int a0), (2, .int a1)]) hx hb dX8_copy_1 rfl hl (by decide) rfl (fun ls hl => ?_)
  replace h := bnd h
  obtain ⟨M7, j6, h⟩ := h
  refine lp_W (Wst := fun (st : Mem × Int32) => ∀ (ls : Array Slot) (H : Heap) (locs : List Loc), lv_has ls 4 [(0, .ref (adr 36)), (1, .int a0), (2, .int a1), (3, .int st.2)] → wH G A s.heap s (LL adr) (wf G adr st.1) H locs → W p l e { frames := 0, cells := 0, slots := 0, locals := 0 } s m args below meth c H locs 0 0 Q (F0 m 2 ls [])) (fin := fun (r : Mem) => ∀ (ls : Array Slot) (H : Heap) (locs : List Loc), lv_has ls 4 [(0, .ref (adr 36)), (1, .int a0), (2, .int a1)] → wH G A s.heap s (LL adr) (wf G adr r) H locs → W p l e { frames := 0, cells := 0, slots := 0, locals := 0 } s m args below meth c H locs 0 0 Q (F0 m 40 ls [])) ?_ n _ _ j6 ?_ _ _ _ (lv_sub hl [1, 2, 3, 0] rfl) hw
  · clear h j6 hw hl
    intro ⟨M1, v2⟩ x h k1 k2 ls H locs hl hw
    (try dsimp only at k1 k2 hl hw ⊢)
    unfold l_X8_copy_2 at h
    (try dsimp only at h)
    refine lv_iload_n hx hb dX8_copy_2 rfl (lv_at hl 3 rfl) ?_
    refine lv_aload_n hx hb dX8_copy_3 rfl (lv_at hl 0 rfl) ?_
    refine m_get (k := 36) (C := RX8) (T := TX8) (N := 18) (ref := "LiftFactorsModel") (v := .ref (adr 42)) hx hb hi hts inX8_u hown hw (by decide) rfl 8 (by decide) q_1 rfl rfl dX8_copy_4 ?_
    refine lv_iload_n hx hb dX8_copy_7 rfl (lv_at hl 1 rfl) ?_
    replace h := bnd h
    obtain ⟨v3, e3, h⟩ := h
    refine m_iald hx hb hi hw e3 dX8_copy_8 ?_
    refine lv_icmp_gt (tgt := 40) hx hb dX8_copy_9 (by decide) (fun hc => ?_) (fun hc => ?_)
    · replace h := ite_t hc h
      cases h
      exact k1 _ rfl _ _ _ (lv_sub hl [0, 1, 2] rfl) hw
    · replace h := ite_f hc h
      refine lv_aload_n hx hb dX8_copy_12 rfl (lv_at hl 0 rfl) ?_
      refine m_get (k := 36) (C := RX8) (T := TX8) (N := 18) (ref := "LiftFactorsModel") (v := .ref (adr 41)) hx hb hi hts inX8_u hown hw (by decide) rfl 7 (by decide) q_0 rfl rfl dX8_copy_13 ?_
      refine lv_bipush (v := (24 : Int32)) hx hb dX8_copy_16 (by decide) ?_
      refine lv_iload_n hx hb dX8_copy_18 rfl (lv_at hl 2 rfl) ?_
      refine lv_imul hx hb dX8_copy_19 ?_
      refine lv_iload_n hx hb dX8_copy_20 rfl (lv_at hl 3 rfl) ?_
      refine lv_iadd hx hb dX8_copy_21 ?_
      refine lv_aload_n hx hb dX8_copy_22 rfl (lv_at hl 0 rfl) ?_
      refine m_get (k := 36) (C := RX8) (T := TX8) (N := 18) (ref := "LiftFactorsModel") (v := .ref (adr 41)) hx hb hi hts inX8_u hown hw (by decide) rfl 7 (by decide) q_0 rfl rfl dX8_copy_23 ?_
      refine lv_bipush (v := (24 : Int32)) hx hb dX8_copy_26 (by decide) ?_
      refine lv_iload_n hx hb dX8_copy_28 rfl (lv_at hl 1 rfl) ?_
      refine lv_imul hx hb dX8_copy_29 ?_
      refine lv_iload_n hx hb dX8_copy_30 rfl (lv_at hl 3 rfl) ?_
      refine lv_iadd hx hb dX8_copy_31 ?_
      replace h := bnd h
      obtain ⟨v4, e4, h⟩ := h
      refine m_lald hx hb hi hw e4 dX8_copy_32 ?_
      replace h := bnd h
      obtain ⟨v5, e5, h⟩ := h
      refine m_last hx hb hi hw e5 dX8_copy_33 (fun H locs hw => ?_)
      refine lv_iinc (v := v2 + 1) (lv' := [(3, .int (v2 + 1)), (0, .ref (adr 36)), (1, .int a0), (2, .int a1)]) hx hb dX8_copy_34 hl (k := 3) rfl (inc_p _ (by decide)) (by decide) rfl (fun ls hl => ?_)
      refine lv_goto (tgt := 2) hx hb dX8_copy_37 (by decide) ?_
      cases h
      exact k2 _ rfl _ _ _ (lv_sub hl [1, 2, 3, 0] rfl) hw
  · clear hw hl
    intro ls H locs hl hw
    (try dsimp only at hl hw ⊢)
    refine lv_aload_n hx hb dX8_copy_40 rfl (lv_at hl 0 rfl) ?_
    refine m_get (k := 36) (C := RX8) (T := TX8) (N := 18) (ref := "LiftFactorsModel") (v := .ref (adr 42)) hx hb hi hts inX8_u hown hw (by decide) rfl 8 (by decide) q_1 rfl rfl dX8_copy_41 ?_
    refine lv_iload_n hx hb dX8_copy_44 rfl (lv_at hl 2 rfl) ?_
    refine lv_aload_n hx hb dX8_copy_45 rfl (lv_at hl 0 rfl) ?_
    refine m_get (k := 36) (C := RX8) (T := TX8) (N := 18) (ref := "LiftFactorsModel") (v := .ref (adr 42)) hx hb hi hts inX8_u hown hw (by decide) rfl 8 (by decide) q_1 rfl rfl dX8_copy_46 ?_
    refine lv_iload_n hx hb dX8_copy_49 rfl (lv_at hl 1 rfl) ?_
    replace h := bnd h
    obtain ⟨v8, e8, h⟩ := h
    refine m_iald hx hb hi hw e8 dX8_copy_50 ?_
    replace h := bnd h
    obtain ⟨v9, e9, h⟩ := h
    refine m_iast hx hb hi hw e9 dX8_copy_51 (fun H locs hw => ?_)
    cases h
    exact kr _ _ _ _ dX8_copy_52 hw
theorem cc_X8_copy {l : Launch} {G : gG} {adr : Nat → Nat} {sz : Nat} (hi : adi adr) {n : Nat} {a0 : Int32} {a1 : Int32} {M M' : Mem} (h : f_X8_copy n a0 a1 M = some M') : mV l yX8_copy cX8_copy 4 none { frames := 0, cells := 0, slots := 0, locals := 0 } G adr [.ref (adr 36), .int a0, .int a1] M sz M' := by
  refine wEnter (by decide) (Nat.le_of_ble_eq_true rfl) ?_
  intro p e s m below meth c ls cx hinit hl hsz hw
  exact b_X8_copy cx hi h (fun pc ls H locs hd hw => w_vret (post := fun (u : Mem) => u = M') (lf := fun u => (LL adr, wf G adr u)) cx.1 cx.2.1 cx.2.2.1 cx.2.2.2.2.2.2 M' hw rfl hd) hl hw
def f_X8_constant (a0 : Int32) (a1 : Int64) (M : Mem) : Option Mem :=
  Option.bind (stJ M 41 ((24 : Int32) * a0) a1) fun v1 =>
  Option.bind (
    if a1 = (0 : Int64) then
      some (-1 : Int32)
    else
      some (0 : Int32)) fun v2 =>
  Option.bind (stI v1 42 a0 v2) fun v3 =>
  some v3
set_option maxRecDepth 100000 in
set_option maxHeartbeats 8000000 in
theorem b_X8_constant {p : Program} {l : Launch} {e : Env} {s : State} {m : MethodId} {args : Array Value} {below : List Frame} {meth : Method} {c : Code} {Q : State → Prop} {G : gG} {A : Nat → Prop} {adr : Nat → Nat} (cx : cX p s m args meth c cX8_constant none 4 yX8_constant.cls) (hi : adi adr) {a0 : Int32} {a1 : Int64} {M M' : Mem} 
    (h : f_X8_constant a0 a1 M = some M')
    (kr : ∀ (pc : Nat) (ls : Array Slot) (H : Heap) (locs : List Loc), decode cX8_constant pc = .ok (.return_, 1) → wH G A s.heap s (LL adr) (wf G adr M') H locs → W p l e { frames := 0, cells := 0, slots := 0, locals := 0 } s m args below meth c H locs 0 0 Q (F0 m pc ls []))
    {ls : Array Slot} {H : Heap} {locs : List Loc} (hl : lv_has ls 4 [(0, .ref (adr 36)), (1, .int a0), (2, .long a1)]) (hw : wH G A s.heap s (LL adr) (wf G adr M) H locs) : W p l e { frames := 0, cells := 0, slots := 0, locals := 0 } s m args below meth c H locs 0 0 Q (F0 m 0 ls []) := by
  obtain ⟨hx, hb, -, -, hown, hts, -⟩ := id cx
  have hown : s.vm.findClass RX8 = some m.cls := hown
  unfold f_X8_constant at h
  refine lv_aload_n hx hb dX8_constant_0 rfl (lv_at hl 0 rfl) ?_
  refine m_get (k := 36) (C := RX8) (T := TX8) (N := 18) (ref := "LiftFactorsModel") (v := .ref (adr 41)) hx hb hi hts inX8_u hown hw (by decide) rfl 7 (by decide) q_0 rfl rfl dX8_constant_1 ?_
  refine lv_bipush (v := (24 : Int32)) hx hb dX8_constant_4 (by decide) ?_
  refine lv_iload_n hx hb dX8_constant_6 rfl (lv_at hl 1 rfl) ?_
  refine lv_imul hx hb dX8_constant_7 ?_
  refine lv_lload_n hx hb dX8_constant_8 rfl (lv_at hl 2 rfl) ?_
  replace h := bnd h
  obtain ⟨v1, e1, h⟩ := h
  refine m_last hx hb hi hw e1 dX8_constant_9 (fun H locs hw => ?_)
  refine lv_aload_n hx hb dX8_constant_10 rfl (lv_at hl 0 rfl) ?_
  refine m_get (k := 36) (C := RX8) (T := TX8) (N := 18) (ref := "LiftFactorsModel") (v := .ref (adr 42)) hx hb hi hts inX8_u hown hw (by decide) rfl 8 (by decide) q_1 rfl rfl dX8_constant_11 ?_
  refine lv_iload_n hx hb dX8_constant_14 rfl (lv_at hl 1 rfl) ?_
  refine lv_lload_n hx hb dX8_constant_15 rfl (lv_at hl 2 rfl) ?_
  refine lv_lconst (v := (0 : Int64)) hx hb dX8_constant_16 (by decide) ?_
  replace h := bnd h
  obtain ⟨v2, j4, h⟩ := h
  have kj : ∀ (ls : Array Slot) (H : Heap) (locs : List Loc), lv_has ls 4 [] → wH G A s.heap s (LL adr) (wf G adr v1) H locs → W p l e { frames := 0, cells := 0, slots := 0, locals := 0 } s m args below meth c H locs 0 0 Q (F0 m 26 ls [.int v2, .int a0, .ref (adr 42)]) := by
    intro ls H locs hl hw
    replace h := bnd h
    obtain ⟨v3, e3, h⟩ := h
    refine m_iast hx hb hi hw e3 dX8_constant_26 (fun H locs hw => ?_)
    cases h
    exact kr _ _ _ _ dX8_constant_27 hw
  clear h
  replace h := j4
  clear j4
  refine m_lcmp_ne (tgt := 25) hx hb dX8_constant_17 dX8_constant_18 (by decide) (fun hc => ?_) (fun hc => ?_)
  · replace h := ite_f hc h
    refine lv_iconst (v := (0 : Int32)) hx hb dX8_constant_25 (by decide) ?_
    cases h
    exact kj _ _ _ (lv_sub hl [] rfl) hw
  · replace h := ite_t hc h
    refine lv_iconst (v := (-1 : Int32)) hx hb dX8_constant_21 (by decide) ?_
    refine lv_goto (tgt := 26) hx hb dX8_constant_22 (by decide) ?_
    cases h
    exact kj _ _ _ (lv_sub hl [] rfl) hw
theorem cc_X8_constant {l : Launch} {G : gG} {adr : Nat → Nat} {sz : Nat} (hi : adi adr) {a0 : Int32} {a1 : Int64} {M M' : Mem} (h : f_X8_constant a0 a1 M = some M') : mV l yX8_constant cX8_constant 4 none { frames := 0, cells := 0, slots := 0, locals := 0 } G adr [.ref (adr 36), .int a0, .long a1] M sz M' := by
  refine wEnter (by decide) (Nat.le_of_ble_eq_true rfl) ?_
  intro p e s m below meth c ls cx hinit hl hsz hw
  exact b_X8_constant cx hi h (fun pc ls H locs hd hw => w_vret (post := fun (u : Mem) => u = M') (lf := fun u => (LL adr, wf G adr u)) cx.1 cx.2.1 cx.2.2.1 cx.2.2.2.2.2.2 M' hw rfl hd) hl hw
def f_X8_abs (a0 : Int64) : Option Int64 :=
  Option.bind (
    if (0 : Int64) ≤ a0 then
      some a0
    else
      some (-a0)) fun v1 =>
  some v1
set_option maxRecDepth 100000 in
set_option maxHeartbeats 8000000 in
theorem b_X8_abs {p : Program} {l : Launch} {e : Env} {s : State} {m : MethodId} {args : Array Value} {below : List Frame} {meth : Method} {c : Code} {Q : State → Prop} {G : gG} {A : Nat → Prop} {adr : Nat → Nat} (cx : cX p s m args meth c cX8_abs (some .long) 2 yX8_abs.cls) (hi : adi adr) {a0 : Int64} {M : Mem} {r : Int64} 
    (h : f_X8_abs a0 = some r)
    (kr : ∀ (pc : Nat) (ls : Array Slot) (H : Heap) (locs : List Loc), decode cX8_abs pc = .ok (.lreturn, 1) → wH G A s.heap s (LL adr) (wf G adr M) H locs → W p l e { frames := 0, cells := 0, slots := 0, locals := 0 } s m args below meth c H locs 0 0 Q (F0 m pc ls [.long r]))
    {ls : Array Slot} {H : Heap} {locs : List Loc} (hl : lv_has ls 2 [(0, .long a0)]) (hw : wH G A s.heap s (LL adr) (wf G adr M) H locs) : W p l e { frames := 0, cells := 0, slots := 0, locals := 0 } s m args below meth c H locs 0 0 Q (F0 m 0 ls []) := by
  obtain ⟨hx, hb, -, -, hown, hts, -⟩ := id cx
  have hown : s.vm.findClass RX8 = some m.cls := hown
  unfold f_X8_abs at h
  refine lv_lload_n hx hb dX8_abs_0 rfl (lv_at hl 0 rfl) ?_
  refine lv_lconst (v := (0 : Int64)) hx hb dX8_abs_1 (by decide) ?_
  replace h := bnd h
  obtain ⟨v1, j2, h⟩ := h
  have kj : ∀ (ls : Array Slot) (H : Heap) (locs : List Loc), lv_has ls 2 [] → wH G A s.heap s (LL adr) (wf G adr M) H locs → W p l e { frames := 0, cells := 0, slots := 0, locals := 0 } s m args below meth c H locs 0 0 Q (F0 m 12 ls [.long v1]) := by
    intro ls H locs hl hw
    cases h
    exact kr _ _ _ _ dX8_abs_12 hw
  clear h
  replace h := j2
  clear j2
  refine m_lcmp_ge (tgt := 11) hx hb dX8_abs_2 dX8_abs_3 (by decide) (fun hc => ?_) (fun hc => ?_)
  · replace h := ite_t hc h
    refine lv_lload_n hx hb dX8_abs_11 rfl (lv_at hl 0 rfl) ?_
    cases h
    exact kj _ _ _ (lv_sub hl [] rfl) hw
  · replace h := ite_f hc h
    refine lv_lload_n hx hb dX8_abs_6 rfl (lv_at hl 0 rfl) ?_
    refine lv_lneg hx hb dX8_abs_7 ?_
    refine lv_goto (tgt := 12) hx hb dX8_abs_8 (by decide) ?_
    cases h
    exact kj _ _ _ (lv_sub hl [] rfl) hw
theorem cc_X8_abs {l : Launch} {G : gG} {adr : Nat → Nat} {sz : Nat} (hi : adi adr) {a0 : Int64} {M : Mem} {r : Int64} (h : f_X8_abs a0 = some r) : mL l yX8_abs cX8_abs 2 (some .long) { frames := 0, cells := 0, slots := 0, locals := 0 } G adr [.long a0] M sz r M := by
  refine wEnter (by decide) (Nat.le_of_ble_eq_true rfl) ?_
  intro p e s m below meth c ls cx hinit hl hsz hw
  exact b_X8_abs cx hi h (fun pc ls H locs hd hw => w_lret (post := fun (r9 : Int64) (u : Mem) => r9 = r ∧ u = M) (lf := fun u => (LL adr, wf G adr u)) cx.1 cx.2.1 cx.2.2.1 cx.2.2.2.2.2.2 M hw ⟨rfl, rfl⟩ hd) hl hw
theorem q_2 : Cond.methodLink RX8 49 yX8_abs ∈ uU := uU_in (by decide +kernel) (by decide +kernel)
theorem q_3 : Cond.static yX8_abs ∈ uU := uU_in (by decide +kernel) (by decide +kernel)
theorem q_4 : Cond.initialized yX8_abs.cls ∈ uU := uU_in (by decide +kernel) (by decide +kernel)
theorem q_5 : Cond.code yX8_abs cX8_abs 2 (some .long) ∈ uU := uU_in (by decide +kernel) (by decide +kernel)
def l_X8_common_12 : Int64 × Int64 → Option ((Int64) ⊕ (Int64 × Int64)) := fun (v3, v4) =>
  if v4 = (0 : Int64) then
    some (.inl v3)
  else
    Option.bind (rmJ v3 v4) fun v5 =>
    some (.inr (v4, v5))
def f_X8_common (n : Nat) (a0 : Int64) (a1 : Int64) : Option Int64 :=
  Option.bind (f_X8_abs a0) fun v1 =>
  Option.bind (f_X8_abs a1) fun v2 =>
  Option.bind (lpF (l_X8_common_12) n (v1, v2)) fun v7 =>
  some v7
set_option maxRecDepth 100000 in
set_option maxHeartbeats 8000000 in
theorem b_X8_common {p : Program} {l : Launch} {e : Env} {s : State} {m : MethodId} {args : Array Value} {below : List Frame} {meth : Method} {c : Code} {Q : State → Prop} {G : gG} {A : Nat → Prop} {adr : Nat → Nat} (cx : cX p s m args meth c cX8_common (some .long) 10 yX8_common.cls) (hi : adi adr) {n : Nat} {a0 : Int64} {a1 : Int64} {M : Mem} {r : Int64} 
    (h : f_X8_common n a0 a1 = some r)
    (kr : ∀ (pc : Nat) (ls : Array Slot) (H : Heap) (locs : List Loc), decode cX8_common pc = .ok (.lreturn, 1) → wH G A s.heap s (LL adr) (wf G adr M) H locs → W p l e { frames := 1, cells := 0, slots := 0, locals := 21 } s m args below meth c H locs 0 0 Q (F0 m pc ls [.long r]))
    {ls : Array Slot} {H : Heap} {locs : List Loc} (hl : lv_has ls 10 [(0, .long a0), (2, .long a1)]) (hw : wH G A s.heap s (LL adr) (wf G adr M) H locs) : W p l e { frames := 1, cells := 0, slots := 0, locals := 21 } s m args below meth c H locs 0 0 Q (F0 m 0 ls []) := by
  obtain ⟨hx, hb, -, -, hown, hts, -⟩ := id cx
  have hown : s.vm.findClass RX8 = some m.cls := hown
  unfold f_X8_common at h
  refine lv_lload_n hx hb dX8_common_0 rfl (lv_at hl 0 rfl) ?_
  replace h := bnd h
  obtain ⟨v1, e1, h⟩ := h
  refine m_callSl (As := [.long a0]) (rest := []) cx.fix hw (cc_X8_abs (l := l) (G := G) (sz := H.size) (M := M) hi e1) (w_cS 1 hts q_2 q_3 q_4 q_5 rfl rfl (by decide) (by decide)) hl.1 rfl (lv_room (Nat.le_of_ble_eq_true rfl)) dX8_common_1 (fun H locs hw => ?_)
  refine lv_lstore (lv' := [(4, .long v1), (0, .long a0), (2, .long a1)]) hx hb dX8_common_4 hl (by decide) rfl (fun ls hl => ?_)
  refine lv_lload_n hx hb dX8_common_6 rfl (lv_at hl 2 rfl) ?_
  replace h := bnd h
  obtain ⟨v2, e2, h⟩ := h
  refine m_callSl (As := [.long a1]) (rest := []) cx.fix hw (cc_X8_abs (l := l) (G := G) (sz := H.size) (M := M) hi e2) (w_cS 1 hts q_2 q_3 q_4 q_5 rfl rfl (by decide) (by decide)) hl.1 rfl (lv_room (Nat.le_of_ble_eq_true rfl)) dX8_common_7 (fun H locs hw => ?_)
  refine lv_lstore (lv' := [(6, .long v2), (4, .long v1), (0, .long a0), (2, .long a1)]) hx hb dX8_common_10 hl (by decide) rfl (fun ls hl => ?_)
  replace h := bnd h
  obtain ⟨v7, j6, h⟩ := h
  refine lp_W (Wst := fun (st : Int64 × Int64) => ∀ (ls : Array Slot) (H : Heap) (locs : List Loc), lv_has ls 10 [(4, .long st.1), (6, .long st.2)] → wH G A s.heap s (LL adr) (wf G adr M) H locs → W p l e { frames := 1, cells := 0, slots := 0, locals := 21 } s m args below meth c H locs 0 0 Q (F0 m 12 ls [])) (fin := fun (r : Int64) => ∀ (ls : Array Slot) (H : Heap) (locs : List Loc), lv_has ls 10 [(4, .long r)] → wH G A s.heap s (LL adr) (wf G adr M) H locs → W p l e { frames := 1, cells := 0, slots := 0, locals := 21 } s m args below meth c H locs 0 0 Q (F0 m 37 ls [])) ?_ n _ _ j6 ?_ _ _ _ (lv_sub hl [1, 0] rfl) hw
  · clear h j6 hw hl
    intro ⟨v3, v4⟩ x h k1 k2 ls H locs hl hw
    (try dsimp only at k1 k2 hl hw ⊢)
    unfold l_X8_common_12 at h
    (try dsimp only at h)
    refine lv_lload hx hb dX8_common_12 (lv_at hl 1 rfl) ?_
    refine lv_lconst (v := (0 : Int64)) hx hb dX8_common_14 (by decide) ?_
    refine m_lcmp_eq (tgt := 37) hx hb dX8_common_15 dX8_common_16 (by decide) (fun hc => ?_) (fun hc => ?_)
    · replace h := ite_t hc h
      cases h
      exact k1 _ rfl _ _ _ (lv_sub hl [0] rfl) hw
    · replace h := ite_f hc h
      refine lv_lload hx hb dX8_common_19 (lv_at hl 0 rfl) ?_
      refine lv_lload hx hb dX8_common_21 (lv_at hl 1 rfl) ?_
      replace h := bnd h
      obtain ⟨v5, e5, h⟩ := h
      obtain ⟨ne5, rfl⟩ := rmJ_ok e5
      refine lv_lrem hx hb dX8_common_23 ne5 ?_
      obtain ⟨v5, e5⟩ : ∃ z9, z9 = v3 - v3 / v4 * v4 := ⟨_, rfl⟩
      rw [← e5] at h ⊢
      refine lv_lstore (lv' := [(8, .long v5), (4, .long v3), (6, .long v4)]) hx hb dX8_common_24 hl (by decide) rfl (fun ls hl => ?_)
      refine lv_lload hx hb dX8_common_26 (lv_at hl 2 rfl) ?_
      refine lv_lstore (lv' := [(4, .long v4), (8, .long v5), (6, .long v4)]) hx hb dX8_common_28 hl (by decide) rfl (fun ls hl => ?_)
      refine lv_lload hx hb dX8_common_30 (lv_at hl 1 rfl) ?_
      refine lv_lstore (lv' := [(6, .long v5), (4, .long v4), (8, .long v5)]) hx hb dX8_common_32 hl (by decide) rfl (fun ls hl => ?_)
      refine lv_goto (tgt := 12) hx hb dX8_common_34 (by decide) ?_
      cases h
      exact k2 _ rfl _ _ _ (lv_sub hl [1, 0] rfl) hw
  · clear hw hl
    intro ls H locs hl hw
    (try dsimp only at hl hw ⊢)
    refine lv_lload hx hb dX8_common_37 (lv_at hl 0 rfl) ?_
    cases h
    exact kr _ _ _ _ dX8_common_39 hw
theorem cc_X8_common {l : Launch} {G : gG} {adr : Nat → Nat} {sz : Nat} (hi : adi adr) {n : Nat} {a0 : Int64} {a1 : Int64} {M : Mem} {r : Int64} (h : f_X8_common n a0 a1 = some r) : mL l yX8_common cX8_common 10 (some .long) { frames := 1, cells := 0, slots := 0, locals := 21 } G adr [.long a0, .long a1] M sz r M := by
  refine wEnter (by decide) (Nat.le_of_ble_eq_true rfl) ?_
  intro p e s m below meth c ls cx hinit hl hsz hw
  exact b_X8_common cx hi h (fun pc ls H locs hd hw => w_lret (post := fun (r9 : Int64) (u : Mem) => r9 = r ∧ u = M) (lf := fun u => (LL adr, wf G adr u)) cx.1 cx.2.1 cx.2.2.1 cx.2.2.2.2.2.2 M hw ⟨rfl, rfl⟩ hd) hl hw
theorem q_6 : Cond.methodLink RX8 53 yX8_common ∈ uU := uU_in (by decide +kernel) (by decide +kernel)
theorem q_7 : Cond.static yX8_common ∈ uU := uU_in (by decide +kernel) (by decide +kernel)
theorem q_8 : Cond.initialized yX8_common.cls ∈ uU := uU_in (by decide +kernel) (by decide +kernel)
theorem q_9 : Cond.code yX8_common cX8_common 10 (some .long) ∈ uU := uU_in (by decide +kernel) (by decide +kernel)
def l_X8_primitive_5 (n : Nat) (a0 : Int32) (M : Mem) : Int64 × Int32 → Option ((Int64) ⊕ (Int64 × Int32)) := fun (v1, v2) =>
  Option.bind (ldI M 42 a0) fun v3 =>
  if v3 < v2 then
    some (.inl v1)
  else
    Option.bind (ldJ M 41 (((24 : Int32) * a0) + v2)) fun v4 =>
    Option.bind (f_X8_common n v1 v4) fun v5 =>
    some (.inr (v5, v2 + 1))
def l_X8_primitive_74 (a0 : Int32) (v10 : Int64) : Mem × Int32 → Option ((Mem) ⊕ (Mem × Int32)) := fun (M11, v12) =>
  Option.bind (ldI M11 42 a0) fun v13 =>
  if v13 < v12 then
    some (.inl M11)
  else
    Option.bind (ldJ M11 41 (((24 : Int32) * a0) + v12)) fun v14 =>
    Option.bind (dvJ v14 v10) fun v15 =>
    Option.bind (stJ M11 41 (((24 : Int32) * a0) + v12) v15) fun v16 =>
    some (.inr (v16, v12 + 1))
def f_X8_primitive (n : Nat) (a0 : Int32) (M : Mem) : Option (Int64 × Mem) :=
  Option.bind (lpF (l_X8_primitive_5 n a0 M) n ((0 : Int64), (0 : Int32))) fun v7 =>
  if v7 = (0 : Int64) then
    some ((0 : Int64), M)
  else
    Option.bind (ldI M 42 a0) fun v8 =>
    Option.bind (ldJ M 41 (((24 : Int32) * a0) + v8)) fun v9 =>
    Option.bind (
      if (0 : Int64) ≤ v9 then
        some v7
      else
        some (-v7)) fun v10 =>
    Option.bind (lpF (l_X8_primitive_74 a0 v10) n (M, (0 : Int32))) fun M18 =>
    some (v10, M18)
set_option maxRecDepth 100000 in
set_option maxHeartbeats 8000000 in
theorem b_X8_primitive {p : Program} {l : Launch} {e : Env} {s : State} {m : MethodId} {args : Array Value} {below : List Frame} {meth : Method} {c : Code} {Q : State → Prop} {G : gG} {A : Nat → Prop} {adr : Nat → Nat} (cx : cX p s m args meth c cX8_primitive (some .long) 5 yX8_primitive.cls) (hi : adi adr) {n : Nat} {a0 : Int32} {M M' : Mem} {r : Int64} 
    (h : f_X8_primitive n a0 M = some (r, M'))
    (kr : ∀ (pc : Nat) (ls : Array Slot) (H : Heap) (locs : List Loc), decode cX8_primitive pc = .ok (.lreturn, 1) → wH G A s.heap s (LL adr) (wf G adr M') H locs → W p l e { frames := 2, cells := 0, slots := 0, locals := 50 } s m args below meth c H locs 0 0 Q (F0 m pc ls [.long r]))
    {ls : Array Slot} {H : Heap} {locs : List Loc} (hl : lv_has ls 5 [(0, .ref (adr 36)), (1, .int a0)]) (hw : wH G A s.heap s (LL adr) (wf G adr M) H locs) : W p l e { frames := 2, cells := 0, slots := 0, locals := 50 } s m args below meth c H locs 0 0 Q (F0 m 0 ls []) := by
  obtain ⟨hx, hb, -, -, hown, hts, -⟩ := id cx
  have hown : s.vm.findClass RX8 = some m.cls := hown
  unfold f_X8_primitive at h
  refine lv_lconst (v := (0 : Int64)) hx hb dX8_primitive_0 (by decide) ?_
  refine lv_lstore_n (lv' := [(2, .long (0 : Int64)), (0, .ref (adr 36)), (1, .int a0)]) hx hb dX8_primitive_1 rfl hl (by decide) rfl (fun ls hl => ?_)
  refine lv_iconst (v := (0 : Int32)) hx hb dX8_primitive_2 (by decide) ?_
  refine lv_istore (lv' := [(4, .int (0 : Int32)), (2, .long (0 : Int64)), (0, .ref (adr 36)), (1, .int a0)]) hx hb dX8_primitive_3 hl (by decide) rfl (fun ls hl => ?_)
  replace h := bnd h
  obtain ⟨v7, j6, h⟩ := h
  refine lp_W (Wst := fun (st : Int64 × Int32) => ∀ (ls : Array Slot) (H : Heap) (locs : List Loc), lv_has ls 5 [(0, .ref (adr 36)), (1, .int a0), (2, .long st.1), (4, .int st.2)] → wH G A s.heap s (LL adr) (wf G adr M) H locs → W p l e { frames := 2, cells := 0, slots := 0, locals := 50 } s m args below meth c H locs 0 0 Q (F0 m 5 ls [])) (fin := fun (r : Int64) => ∀ (ls : Array Slot) (H : Heap) (locs : List Loc), lv_has ls 5 [(0, .ref (adr 36)), (1, .int a0), (2, .long r)] → wH G A s.heap s (LL adr) (wf G adr M) H locs → W p l e { frames := 2, cells := 0, slots := 0, locals := 50 } s m args below meth c H locs 0 0 Q (F0 m 39 ls [])) ?_ n _ _ j6 ?_ _ _ _ (lv_sub hl [2, 3, 1, 0] rfl) hw
  · clear h j6 hw hl
    intro ⟨v1, v2⟩ x h k1 k2 ls H locs hl hw
    (try dsimp only at k1 k2 hl hw ⊢)
    unfold l_X8_primitive_5 at h
    (try dsimp only at h)
    refine lv_iload hx hb dX8_primitive_5 (lv_at hl 3 rfl) ?_
    refine lv_aload_n hx hb dX8_primitive_7 rfl (lv_at hl 0 rfl) ?_
    refine m_get (k := 36) (C := RX8) (T := TX8) (N := 18) (ref := "LiftFactorsModel") (v := .ref (adr 42)) hx hb hi hts inX8_u hown hw (by decide) rfl 8 (by decide) q_1 rfl rfl dX8_primitive_8 ?_
    refine lv_iload_n hx hb dX8_primitive_11 rfl (lv_at hl 1 rfl) ?_
    replace h := bnd h
    obtain ⟨v3, e3, h⟩ := h
    refine m_iald hx hb hi hw e3 dX8_primitive_12 ?_
    refine lv_icmp_gt (tgt := 39) hx hb dX8_primitive_13 (by decide) (fun hc => ?_) (fun hc => ?_)
    · replace h := ite_t hc h
      cases h
      exact k1 _ rfl _ _ _ (lv_sub hl [0, 1, 2] rfl) hw
    · replace h := ite_f hc h
      refine lv_lload_n hx hb dX8_primitive_16 rfl (lv_at hl 2 rfl) ?_
      refine lv_aload_n hx hb dX8_primitive_17 rfl (lv_at hl 0 rfl) ?_
      refine m_get (k := 36) (C := RX8) (T := TX8) (N := 18) (ref := "LiftFactorsModel") (v := .ref (adr 41)) hx hb hi hts inX8_u hown hw (by decide) rfl 7 (by decide) q_0 rfl rfl dX8_primitive_18 ?_
      refine lv_bipush (v := (24 : Int32)) hx hb dX8_primitive_21 (by decide) ?_
      refine lv_iload_n hx hb dX8_primitive_23 rfl (lv_at hl 1 rfl) ?_
      refine lv_imul hx hb dX8_primitive_24 ?_
      refine lv_iload hx hb dX8_primitive_25 (lv_at hl 3 rfl) ?_
      refine lv_iadd hx hb dX8_primitive_27 ?_
      replace h := bnd h
      obtain ⟨v4, e4, h⟩ := h
      refine m_lald hx hb hi hw e4 dX8_primitive_28 ?_
      replace h := bnd h
      obtain ⟨v5, e5, h⟩ := h
      refine m_callSl (As := [.long v1, .long v4]) (rest := []) cx.fix hw (cc_X8_common (l := l) (G := G) (sz := H.size) (M := M) hi e5) (w_cS 2 hts q_6 q_7 q_8 q_9 rfl rfl (by decide) (by decide)) hl.1 rfl (lv_room (Nat.le_of_ble_eq_true rfl)) dX8_primitive_29 (fun H locs hw => ?_)
      refine lv_lstore_n (lv' := [(2, .long v5), (0, .ref (adr 36)), (1, .int a0), (4, .int v2)]) hx hb dX8_primitive_32 rfl hl (by decide) rfl (fun ls hl => ?_)
      refine lv_iinc (v := v2 + 1) (lv' := [(4, .int (v2 + 1)), (2, .long v5), (0, .ref (adr 36)), (1, .int a0)]) hx hb dX8_primitive_33 hl (k := 3) rfl (inc_p _ (by decide)) (by decide) rfl (fun ls hl => ?_)
      refine lv_goto (tgt := 5) hx hb dX8_primitive_36 (by decide) ?_
      cases h
      exact k2 _ rfl _ _ _ (lv_sub hl [2, 3, 1, 0] rfl) hw
  · clear hw hl
    intro ls H locs hl hw
    (try dsimp only at hl hw ⊢)
    refine lv_lload_n hx hb dX8_primitive_39 rfl (lv_at hl 2 rfl) ?_
    refine lv_lconst (v := (0 : Int64)) hx hb dX8_primitive_40 (by decide) ?_
    refine m_lcmp_ne (tgt := 47) hx hb dX8_primitive_41 dX8_primitive_42 (by decide) (fun hc => ?_) (fun hc => ?_)
    · replace h := ite_f hc h
      refine lv_aload_n hx hb dX8_primitive_47 rfl (lv_at hl 0 rfl) ?_
      refine m_get (k := 36) (C := RX8) (T := TX8) (N := 18) (ref := "LiftFactorsModel") (v := .ref (adr 41)) hx hb hi hts inX8_u hown hw (by decide) rfl 7 (by decide) q_0 rfl rfl dX8_primitive_48 ?_
      refine lv_bipush (v := (24 : Int32)) hx hb dX8_primitive_51 (by decide) ?_
      refine lv_iload_n hx hb dX8_primitive_53 rfl (lv_at hl 1 rfl) ?_
      refine lv_imul hx hb dX8_primitive_54 ?_
      refine lv_aload_n hx hb dX8_primitive_55 rfl (lv_at hl 0 rfl) ?_
      refine m_get (k := 36) (C := RX8) (T := TX8) (N := 18) (ref := "LiftFactorsModel") (v := .ref (adr 42)) hx hb hi hts inX8_u hown hw (by decide) rfl 8 (by decide) q_1 rfl rfl dX8_primitive_56 ?_
      refine lv_iload_n hx hb dX8_primitive_59 rfl (lv_at hl 1 rfl) ?_
      replace h := bnd h
      obtain ⟨v8, e8, h⟩ := h
      refine m_iald hx hb hi hw e8 dX8_primitive_60 ?_
      refine lv_iadd hx hb dX8_primitive_61 ?_
      replace h := bnd h
      obtain ⟨v9, e9, h⟩ := h
      refine m_lald hx hb hi hw e9 dX8_primitive_62 ?_
      refine lv_lconst (v := (0 : Int64)) hx hb dX8_primitive_63 (by decide) ?_
      replace h := bnd h
      obtain ⟨v10, j19, h⟩ := h
      have kj : ∀ (ls : Array Slot) (H : Heap) (locs : List Loc), lv_has ls 5 [(0, .ref (adr 36)), (1, .int a0), (2, .long v10)] → wH G A s.heap s (LL adr) (wf G adr M) H locs → W p l e { frames := 2, cells := 0, slots := 0, locals := 50 } s m args below meth c H locs 0 0 Q (F0 m 71 ls []) := by
        intro ls H locs hl hw
        refine lv_iconst (v := (0 : Int32)) hx hb dX8_primitive_71 (by decide) ?_
        refine lv_istore (lv' := [(4, .int (0 : Int32)), (0, .ref (adr 36)), (1, .int a0), (2, .long v10)]) hx hb dX8_primitive_72 hl (by decide) rfl (fun ls hl => ?_)
        replace h := bnd h
        obtain ⟨M18, j17, h⟩ := h
        refine lp_W (Wst := fun (st : Mem × Int32) => ∀ (ls : Array Slot) (H : Heap) (locs : List Loc), lv_has ls 5 [(0, .ref (adr 36)), (1, .int a0), (2, .long v10), (4, .int st.2)] → wH G A s.heap s (LL adr) (wf G adr st.1) H locs → W p l e { frames := 2, cells := 0, slots := 0, locals := 50 } s m args below meth c H locs 0 0 Q (F0 m 74 ls [])) (fin := fun (r : Mem) => ∀ (ls : Array Slot) (H : Heap) (locs : List Loc), lv_has ls 5 [(2, .long v10)] → wH G A s.heap s (LL adr) (wf G adr r) H locs → W p l e { frames := 2, cells := 0, slots := 0, locals := 50 } s m args below meth c H locs 0 0 Q (F0 m 107 ls [])) ?_ n _ _ j17 ?_ _ _ _ (lv_sub hl [1, 2, 3, 0] rfl) hw
        · clear h j17 hw hl
          intro ⟨M11, v12⟩ x h k1 k2 ls H locs hl hw
          (try dsimp only at k1 k2 hl hw ⊢)
          unfold l_X8_primitive_74 at h
          (try dsimp only at h)
          refine lv_iload hx hb dX8_primitive_74 (lv_at hl 3 rfl) ?_
          refine lv_aload_n hx hb dX8_primitive_76 rfl (lv_at hl 0 rfl) ?_
          refine m_get (k := 36) (C := RX8) (T := TX8) (N := 18) (ref := "LiftFactorsModel") (v := .ref (adr 42)) hx hb hi hts inX8_u hown hw (by decide) rfl 8 (by decide) q_1 rfl rfl dX8_primitive_77 ?_
          refine lv_iload_n hx hb dX8_primitive_80 rfl (lv_at hl 1 rfl) ?_
          replace h := bnd h
          obtain ⟨v13, e13, h⟩ := h
          refine m_iald hx hb hi hw e13 dX8_primitive_81 ?_
          refine lv_icmp_gt (tgt := 107) hx hb dX8_primitive_82 (by decide) (fun hc => ?_) (fun hc => ?_)
          · replace h := ite_t hc h
            cases h
            exact k1 _ rfl _ _ _ (lv_sub hl [2] rfl) hw
          · replace h := ite_f hc h
            refine lv_aload_n hx hb dX8_primitive_85 rfl (lv_at hl 0 rfl) ?_
            refine m_get (k := 36) (C := RX8) (T := TX8) (N := 18) (ref := "LiftFactorsModel") (v := .ref (adr 41)) hx hb hi hts inX8_u hown hw (by decide) rfl 7 (by decide) q_0 rfl rfl dX8_primitive_86 ?_
            refine lv_bipush (v := (24 : Int32)) hx hb dX8_primitive_89 (by decide) ?_
            refine lv_iload_n hx hb dX8_primitive_91 rfl (lv_at hl 1 rfl) ?_
            refine lv_imul hx hb dX8_primitive_92 ?_
            refine lv_iload hx hb dX8_primitive_93 (lv_at hl 3 rfl) ?_
            refine lv_iadd hx hb dX8_primitive_95 ?_
            refine lv_dup2_11 hx hb dX8_primitive_96 rfl rfl ?_
            replace h := bnd h
            obtain ⟨v14, e14, h⟩ := h
            refine m_lald hx hb hi hw e14 dX8_primitive_97 ?_
            refine lv_lload_n hx hb dX8_primitive_98 rfl (lv_at hl 2 rfl) ?_
            replace h := bnd h
            obtain ⟨v15, e15, h⟩ := h
            obtain ⟨ne15, rfl⟩ := dvJ_ok e15
            refine lv_ldiv hx hb dX8_primitive_99 ne15 ?_
            obtain ⟨v15, e15⟩ : ∃ z9, z9 = v14 / v10 := ⟨_, rfl⟩
            rw [← e15] at h ⊢
            replace h := bnd h
            obtain ⟨v16, e16, h⟩ := h
            refine m_last hx hb hi hw e16 dX8_primitive_100 (fun H locs hw => ?_)
            refine lv_iinc (v := v12 + 1) (lv' := [(4, .int (v12 + 1)), (0, .ref (adr 36)), (1, .int a0), (2, .long v10)]) hx hb dX8_primitive_101 hl (k := 3) rfl (inc_p _ (by decide)) (by decide) rfl (fun ls hl => ?_)
            refine lv_goto (tgt := 74) hx hb dX8_primitive_104 (by decide) ?_
            cases h
            exact k2 _ rfl _ _ _ (lv_sub hl [1, 2, 3, 0] rfl) hw
        · clear hw hl
          intro ls H locs hl hw
          (try dsimp only at hl hw ⊢)
          refine lv_lload_n hx hb dX8_primitive_107 rfl (lv_at hl 0 rfl) ?_
          cases h
          exact kr _ _ _ _ dX8_primitive_108 hw
      clear h
      replace h := j19
      clear j19
      refine m_lcmp_ge (tgt := 71) hx hb dX8_primitive_64 dX8_primitive_65 (by decide) (fun hc => ?_) (fun hc => ?_)
      · replace h := ite_t hc h
        cases h
        exact kj _ _ _ (lv_sub hl [0, 1, 2] rfl) hw
      · replace h := ite_f hc h
        refine lv_lload_n hx hb dX8_primitive_68 rfl (lv_at hl 2 rfl) ?_
        refine lv_lneg hx hb dX8_primitive_69 ?_
        refine lv_lstore_n (lv' := [(2, .long (-v7)), (0, .ref (adr 36)), (1, .int a0)]) hx hb dX8_primitive_70 rfl hl (by decide) rfl (fun ls hl => ?_)
        cases h
        exact kj _ _ _ (lv_sub hl [1, 2, 0] rfl) hw
    · replace h := ite_t hc h
      refine lv_lconst (v := (0 : Int64)) hx hb dX8_primitive_45 (by decide) ?_
      cases h
      exact kr _ _ _ _ dX8_primitive_46 hw
theorem cc_X8_primitive {l : Launch} {G : gG} {adr : Nat → Nat} {sz : Nat} (hi : adi adr) {n : Nat} {a0 : Int32} {M M' : Mem} {r : Int64} (h : f_X8_primitive n a0 M = some (r, M')) : mL l yX8_primitive cX8_primitive 5 (some .long) { frames := 2, cells := 0, slots := 0, locals := 50 } G adr [.ref (adr 36), .int a0] M sz r M' := by
  refine wEnter (by decide) (Nat.le_of_ble_eq_true rfl) ?_
  intro p e s m below meth c ls cx hinit hl hsz hw
  exact b_X8_primitive cx hi h (fun pc ls H locs hd hw => w_lret (post := fun (r9 : Int64) (u : Mem) => r9 = r ∧ u = M') (lf := fun u => (LL adr, wf G adr u)) cx.1 cx.2.1 cx.2.2.1 cx.2.2.2.2.2.2 M' hw ⟨rfl, rfl⟩ hd) hl hw
theorem q_10 : Cond.fieldLink RX8 13 "LiftFactorsModel" "coefficient" "[I" ∈ uU := uU_in (by decide +kernel) (by decide +kernel)
theorem q_11 : Cond.methodLink RX8 57 yX8_trim ∈ uU := uU_in (by decide +kernel) (by decide +kernel)
theorem q_12 : Cond.instanceMethod yX8_trim ∈ uU := uU_in (by decide +kernel) (by decide +kernel)
theorem q_13 : Cond.selects yX8_trim.cls yX8_trim yX8_trim ∈ uU := uU_in (by decide +kernel) (by decide +kernel)
theorem q_14 : Cond.initialized yX8_trim.cls ∈ uU := uU_in (by decide +kernel) (by decide +kernel)
theorem q_15 : Cond.code yX8_trim cX8_trim 4 none ∈ uU := uU_in (by decide +kernel) (by decide +kernel)
def l_X8_load_2 (a0 : Int32) (a1 : Int32) : Mem × Int32 → Option ((Mem) ⊕ (Mem × Int32)) := fun (M1, v2) =>
  if (11 : Int32) ≤ v2 then
    some (.inl M1)
  else
    Option.bind (ldI M1 38 (((11 : Int32) * a0) + v2)) fun v3 =>
    Option.bind (stJ M1 41 (((24 : Int32) * a1) + v2) v3.toInt64) fun v4 =>
    some (.inr (v4, v2 + 1))
def f_X8_load (n : Nat) (a0 : Int32) (a1 : Int32) (M : Mem) : Option Mem :=
  Option.bind (lpF (l_X8_load_2 a0 a1) n (M, (0 : Int32))) fun M6 =>
  Option.bind (f_X8_trim n a1 (10 : Int32) M6) fun v7 =>
  some v7
set_option maxRecDepth 100000 in
set_option maxHeartbeats 8000000 in
theorem b_X8_load {p : Program} {l : Launch} {e : Env} {s : State} {m : MethodId} {args : Array Value} {below : List Frame} {meth : Method} {c : Code} {Q : State → Prop} {G : gG} {A : Nat → Prop} {adr : Nat → Nat} (cx : cX p s m args meth c cX8_load none 4 yX8_load.cls) (hi : adi adr) {n : Nat} {a0 : Int32} {a1 : Int32} {M M' : Mem} 
    (h : f_X8_load n a0 a1 M = some M')
    (kr : ∀ (pc : Nat) (ls : Array Slot) (H : Heap) (locs : List Loc), decode cX8_load pc = .ok (.return_, 1) → wH G A s.heap s (LL adr) (wf G adr M') H locs → W p l e { frames := 1, cells := 0, slots := 0, locals := 23 } s m args below meth c H locs 0 0 Q (F0 m pc ls []))
    {ls : Array Slot} {H : Heap} {locs : List Loc} (hl : lv_has ls 4 [(0, .ref (adr 36)), (1, .int a0), (2, .int a1)]) (hw : wH G A s.heap s (LL adr) (wf G adr M) H locs) : W p l e { frames := 1, cells := 0, slots := 0, locals := 23 } s m args below meth c H locs 0 0 Q (F0 m 0 ls []) := by
  obtain ⟨hx, hb, -, -, hown, hts, -⟩ := id cx
  have hown : s.vm.findClass RX8 = some m.cls := hown
  unfold f_X8_load at h
  refine lv_iconst (v := (0 : Int32)) hx hb dX8_load_0 (by decide) ?_
  refine lv_istore_n (lv' := [(3, .int (0 : Int32)), (0, .ref (adr 36)), (1, .int a0), (2, .int a1)]) hx hb dX8_load_1 rfl hl (by decide) rfl (fun ls hl => ?_)
  replace h := bnd h
  obtain ⟨M6, j5, h⟩ := h
  refine lp_W (Wst := fun (st : Mem × Int32) => ∀ (ls : Array Slot) (H : Heap) (locs : List Loc), lv_has ls 4 [(0, .ref (adr 36)), (1, .int a0), (2, .int a1), (3, .int st.2)] → wH G A s.heap s (LL adr) (wf G adr st.1) H locs → W p l e { frames := 1, cells := 0, slots := 0, locals := 23 } s m args below meth c H locs 0 0 Q (F0 m 2 ls [])) (fin := fun (r : Mem) => ∀ (ls : Array Slot) (H : Heap) (locs : List Loc), lv_has ls 4 [(0, .ref (adr 36)), (2, .int a1)] → wH G A s.heap s (LL adr) (wf G adr r) H locs → W p l e { frames := 1, cells := 0, slots := 0, locals := 23 } s m args below meth c H locs 0 0 Q (F0 m 37 ls [])) ?_ n _ _ j5 ?_ _ _ _ (lv_sub hl [1, 2, 3, 0] rfl) hw
  · clear h j5 hw hl
    intro ⟨M1, v2⟩ x h k1 k2 ls H locs hl hw
    (try dsimp only at k1 k2 hl hw ⊢)
    unfold l_X8_load_2 at h
    (try dsimp only at h)
    refine lv_iload_n hx hb dX8_load_2 rfl (lv_at hl 3 rfl) ?_
    refine lv_bipush (v := (11 : Int32)) hx hb dX8_load_3 (by decide) ?_
    refine lv_icmp_ge (tgt := 37) hx hb dX8_load_5 (by decide) (fun hc => ?_) (fun hc => ?_)
    · replace h := ite_t hc h
      cases h
      exact k1 _ rfl _ _ _ (lv_sub hl [0, 2] rfl) hw
    · replace h := ite_f hc h
      refine lv_aload_n hx hb dX8_load_8 rfl (lv_at hl 0 rfl) ?_
      refine m_get (k := 36) (C := RX8) (T := TX8) (N := 18) (ref := "LiftFactorsModel") (v := .ref (adr 41)) hx hb hi hts inX8_u hown hw (by decide) rfl 7 (by decide) q_0 rfl rfl dX8_load_9 ?_
      refine lv_bipush (v := (24 : Int32)) hx hb dX8_load_12 (by decide) ?_
      refine lv_iload_n hx hb dX8_load_14 rfl (lv_at hl 2 rfl) ?_
      refine lv_imul hx hb dX8_load_15 ?_
      refine lv_iload_n hx hb dX8_load_16 rfl (lv_at hl 3 rfl) ?_
      refine lv_iadd hx hb dX8_load_17 ?_
      refine lv_aload_n hx hb dX8_load_18 rfl (lv_at hl 0 rfl) ?_
      refine m_get (k := 36) (C := RX8) (T := TX8) (N := 18) (ref := "LiftFactorsModel") (v := .ref (adr 38)) hx hb hi hts inX8_u hown hw (by decide) rfl 1 (by decide) q_10 rfl rfl dX8_load_19 ?_
      refine lv_bipush (v := (11 : Int32)) hx hb dX8_load_22 (by decide) ?_
      refine lv_iload_n hx hb dX8_load_24 rfl (lv_at hl 1 rfl) ?_
      refine lv_imul hx hb dX8_load_25 ?_
      refine lv_iload_n hx hb dX8_load_26 rfl (lv_at hl 3 rfl) ?_
      refine lv_iadd hx hb dX8_load_27 ?_
      replace h := bnd h
      obtain ⟨v3, e3, h⟩ := h
      refine m_iald hx hb hi hw e3 dX8_load_28 ?_
      refine lv_i2l (v := v3.toInt64) hx hb dX8_load_29 rfl ?_
      replace h := bnd h
      obtain ⟨v4, e4, h⟩ := h
      refine m_last hx hb hi hw e4 dX8_load_30 (fun H locs hw => ?_)
      refine lv_iinc (v := v2 + 1) (lv' := [(3, .int (v2 + 1)), (0, .ref (adr 36)), (1, .int a0), (2, .int a1)]) hx hb dX8_load_31 hl (k := 3) rfl (inc_p _ (by decide)) (by decide) rfl (fun ls hl => ?_)
      refine lv_goto (tgt := 2) hx hb dX8_load_34 (by decide) ?_
      cases h
      exact k2 _ rfl _ _ _ (lv_sub hl [1, 2, 3, 0] rfl) hw
  · clear hw hl
    intro ls H locs hl hw
    (try dsimp only at hl hw ⊢)
    refine lv_aload_n hx hb dX8_load_37 rfl (lv_at hl 0 rfl) ?_
    refine lv_iload_n hx hb dX8_load_38 rfl (lv_at hl 1 rfl) ?_
    refine lv_bipush (v := (10 : Int32)) hx hb dX8_load_39 (by decide) ?_
    replace h := bnd h
    obtain ⟨v7, e7, h⟩ := h
    refine m_callVv (k := 36) (As := [.int a1, .int (10 : Int32)]) (rest := []) cx.fix hi hw (cc_X8_trim (l := l) (G := G) (sz := H.size) hi e7) (by decide) rfl rfl (w_cV 2 hts q_11 q_12 q_13 q_14 q_15 rfl rfl (by decide) (by decide)) hl.1 rfl (lv_room (Nat.le_of_ble_eq_true rfl)) dX8_load_41 (fun H locs hw => ?_)
    cases h
    exact kr _ _ _ _ dX8_load_44 hw
theorem cc_X8_load {l : Launch} {G : gG} {adr : Nat → Nat} {sz : Nat} (hi : adi adr) {n : Nat} {a0 : Int32} {a1 : Int32} {M M' : Mem} (h : f_X8_load n a0 a1 M = some M') : mV l yX8_load cX8_load 4 none { frames := 1, cells := 0, slots := 0, locals := 23 } G adr [.ref (adr 36), .int a0, .int a1] M sz M' := by
  refine wEnter (by decide) (Nat.le_of_ble_eq_true rfl) ?_
  intro p e s m below meth c ls cx hinit hl hsz hw
  exact b_X8_load cx hi h (fun pc ls H locs hd hw => w_vret (post := fun (u : Mem) => u = M') (lf := fun u => (LL adr, wf G adr u)) cx.1 cx.2.1 cx.2.2.1 cx.2.2.2.2.2.2 M' hw rfl hd) hl hw
theorem q_16 : Cond.fieldLink RX8 61 "LiftFactorsModel" "given" "I" ∈ uU := uU_in (by decide +kernel) (by decide +kernel)
theorem q_17 : Cond.methodLink RX8 64 yX8_get ∈ uU := uU_in (by decide +kernel) (by decide +kernel)
theorem q_18 : Cond.instanceMethod yX8_get ∈ uU := uU_in (by decide +kernel) (by decide +kernel)
theorem q_19 : Cond.selects yX8_get.cls yX8_get yX8_get ∈ uU := uU_in (by decide +kernel) (by decide +kernel)
theorem q_20 : Cond.initialized yX8_get.cls ∈ uU := uU_in (by decide +kernel) (by decide +kernel)
theorem q_21 : Cond.code yX8_get cX8_get 3 (some .long) ∈ uU := uU_in (by decide +kernel) (by decide +kernel)
def l_X8_store_2 (a0 : Int32) : Mem × Int32 → Option ((Mem) ⊕ (Mem × Int32)) := fun (M1, v2) =>
  if (11 : Int32) ≤ v2 then
    some (.inl M1)
  else
    Option.bind (f_X8_get a0 v2 M1) fun v3 =>
    Option.bind (stI M1 38 (((11 : Int32) * (M1.2 36 2)) + v2) v3.toInt32) fun v4 =>
    some (.inr (v4, v2 + 1))
def f_X8_store (n : Nat) (a0 : Int32) (M : Mem) : Option (Int32 × Mem) :=
  Option.bind (lpF (l_X8_store_2 a0) n (M, (0 : Int32))) fun M6 =>
  Option.bind (ptI M6 36 2 ((M6.2 36 2) + (1 : Int32))) fun v7 =>
  some ((v7.2 36 2) - (1 : Int32), v7)
set_option maxRecDepth 100000 in
set_option maxHeartbeats 8000000 in
theorem b_X8_store {p : Program} {l : Launch} {e : Env} {s : State} {m : MethodId} {args : Array Value} {below : List Frame} {meth : Method} {c : Code} {Q : State → Prop} {G : gG} {A : Nat → Prop} {adr : Nat → Nat} (cx : cX p s m args meth c cX8_store (some .int) 3 yX8_store.cls) (hi : adi adr) {n : Nat} {a0 : Int32} {M M' : Mem} {r : Int32} 
    (h : f_X8_store n a0 M = some (r, M'))
    (kr : ∀ (pc : Nat) (ls : Array Slot) (H : Heap) (locs : List Loc), decode cX8_store pc = .ok (.ireturn, 1) → wH G A s.heap s (LL adr) (wf G adr M') H locs → W p l e { frames := 1, cells := 0, slots := 0, locals := 22 } s m args below meth c H locs 0 0 Q (F0 m pc ls [.int r]))
    {ls : Array Slot} {H : Heap} {locs : List Loc} (hl : lv_has ls 3 [(0, .ref (adr 36)), (1, .int a0)]) (hw : wH G A s.heap s (LL adr) (wf G adr M) H locs) : W p l e { frames := 1, cells := 0, slots := 0, locals := 22 } s m args below meth c H locs 0 0 Q (F0 m 0 ls []) := by
  obtain ⟨hx, hb, -, -, hown, hts, -⟩ := id cx
  have hown : s.vm.findClass RX8 = some m.cls := hown
  unfold f_X8_store at h
  refine lv_iconst (v := (0 : Int32)) hx hb dX8_store_0 (by decide) ?_
  refine lv_istore_n (lv' := [(2, .int (0 : Int32)), (0, .ref (adr 36)), (1, .int a0)]) hx hb dX8_store_1 rfl hl (by decide) rfl (fun ls hl => ?_)
  replace h := bnd h
  obtain ⟨M6, j5, h⟩ := h
  refine lp_W (Wst := fun (st : Mem × Int32) => ∀ (ls : Array Slot) (H : Heap) (locs : List Loc), lv_has ls 3 [(0, .ref (adr 36)), (1, .int a0), (2, .int st.2)] → wH G A s.heap s (LL adr) (wf G adr st.1) H locs → W p l e { frames := 1, cells := 0, slots := 0, locals := 22 } s m args below meth c H locs 0 0 Q (F0 m 2 ls [])) (fin := fun (r : Mem) => ∀ (ls : Array Slot) (H : Heap) (locs : List Loc), lv_has ls 3 [(0, .ref (adr 36))] → wH G A s.heap s (LL adr) (wf G adr r) H locs → W p l e { frames := 1, cells := 0, slots := 0, locals := 22 } s m args below meth c H locs 0 0 Q (F0 m 35 ls [])) ?_ n _ _ j5 ?_ _ _ _ (lv_sub hl [1, 2, 0] rfl) hw
  · clear h j5 hw hl
    intro ⟨M1, v2⟩ x h k1 k2 ls H locs hl hw
    (try dsimp only at k1 k2 hl hw ⊢)
    unfold l_X8_store_2 at h
    (try dsimp only at h)
    refine lv_iload_n hx hb dX8_store_2 rfl (lv_at hl 2 rfl) ?_
    refine lv_bipush (v := (11 : Int32)) hx hb dX8_store_3 (by decide) ?_
    refine lv_icmp_ge (tgt := 35) hx hb dX8_store_5 (by decide) (fun hc => ?_) (fun hc => ?_)
    · replace h := ite_t hc h
      cases h
      exact k1 _ rfl _ _ _ (lv_sub hl [0] rfl) hw
    · replace h := ite_f hc h
      refine lv_aload_n hx hb dX8_store_8 rfl (lv_at hl 0 rfl) ?_
      refine m_get (k := 36) (C := RX8) (T := TX8) (N := 18) (ref := "LiftFactorsModel") (v := .ref (adr 38)) hx hb hi hts inX8_u hown hw (by decide) rfl 1 (by decide) q_10 rfl rfl dX8_store_9 ?_
      refine lv_bipush (v := (11 : Int32)) hx hb dX8_store_12 (by decide) ?_
      refine lv_aload_n hx hb dX8_store_14 rfl (lv_at hl 0 rfl) ?_
      refine m_get (k := 36) (C := RX8) (T := TX8) (N := 18) (ref := "LiftFactorsModel") (v := .int (M1.2 36 2)) hx hb hi hts inX8_u hown hw (by decide) rfl 2 (by decide) q_16 rfl rfl dX8_store_15 ?_
      refine lv_imul hx hb dX8_store_18 ?_
      refine lv_iload_n hx hb dX8_store_19 rfl (lv_at hl 2 rfl) ?_
      refine lv_iadd hx hb dX8_store_20 ?_
      refine lv_aload_n hx hb dX8_store_21 rfl (lv_at hl 0 rfl) ?_
      refine lv_iload_n hx hb dX8_store_22 rfl (lv_at hl 1 rfl) ?_
      refine lv_iload_n hx hb dX8_store_23 rfl (lv_at hl 2 rfl) ?_
      replace h := bnd h
      obtain ⟨v3, e3, h⟩ := h
      refine m_callVl (k := 36) (As := [.int a0, .int v2]) (rest := [.int (((11 : Int32) * (M1.2 36 2)) + v2), .ref (adr 38)]) cx.fix hi hw (cc_X8_get (l := l) (G := G) (sz := H.size) hi e3) (by decide) rfl rfl (w_cV 2 hts q_17 q_18 q_19 q_20 q_21 rfl rfl (by decide) (by decide)) hl.1 rfl (lv_room (Nat.le_of_ble_eq_true rfl)) dX8_store_24 (fun H locs hw => ?_)
      refine lv_l2i (v := v3.toInt32) hx hb dX8_store_27 rfl ?_
      replace h := bnd h
      obtain ⟨v4, e4, h⟩ := h
      refine m_iast hx hb hi hw e4 dX8_store_28 (fun H locs hw => ?_)
      refine lv_iinc (v := v2 + 1) (lv' := [(2, .int (v2 + 1)), (0, .ref (adr 36)), (1, .int a0)]) hx hb dX8_store_29 hl (k := 2) rfl (inc_p _ (by decide)) (by decide) rfl (fun ls hl => ?_)
      refine lv_goto (tgt := 2) hx hb dX8_store_32 (by decide) ?_
      cases h
      exact k2 _ rfl _ _ _ (lv_sub hl [1, 2, 0] rfl) hw
  · clear hw hl
    intro ls H locs hl hw
    (try dsimp only at hl hw ⊢)
    refine lv_aload_n hx hb dX8_store_35 rfl (lv_at hl 0 rfl) ?_
    refine lv_dup hx hb dX8_store_36 rfl ?_
    refine m_get (k := 36) (C := RX8) (T := TX8) (N := 18) (ref := "LiftFactorsModel") (v := .int (M6.2 36 2)) hx hb hi hts inX8_u hown hw (by decide) rfl 2 (by decide) q_16 rfl rfl dX8_store_37 ?_
    refine lv_iconst (v := (1 : Int32)) hx hb dX8_store_40 (by decide) ?_
    refine lv_iadd hx hb dX8_store_41 ?_
    replace h := bnd h
    obtain ⟨v7, e7, h⟩ := h
    obtain rfl := pt_s e7
    refine m_putI (k := 36) (C := RX8) (T := TX8) (N := 18) (ref := "LiftFactorsModel") hx hb hi hts inX8_u tyX8 tyX8_ok nmX8 hown hw (by decide) rfl 2 (by decide) q_16 rfl rfl (by decide +kernel) rfl dX8_store_42 (fun H locs hw => ?_)
    obtain ⟨v7, e7⟩ : ∃ z9, z9 = sI M6 36 2 ((M6.2 36 2) + (1 : Int32)) := ⟨_, rfl⟩
    rw [← e7] at h hw
    refine lv_aload_n hx hb dX8_store_45 rfl (lv_at hl 0 rfl) ?_
    refine m_get (k := 36) (C := RX8) (T := TX8) (N := 18) (ref := "LiftFactorsModel") (v := .int (v7.2 36 2)) hx hb hi hts inX8_u hown hw (by decide) rfl 2 (by decide) q_16 rfl rfl dX8_store_46 ?_
    refine lv_iconst (v := (1 : Int32)) hx hb dX8_store_49 (by decide) ?_
    refine lv_isub hx hb dX8_store_50 ?_
    cases h
    exact kr _ _ _ _ dX8_store_51 hw
theorem cc_X8_store {l : Launch} {G : gG} {adr : Nat → Nat} {sz : Nat} (hi : adi adr) {n : Nat} {a0 : Int32} {M M' : Mem} {r : Int32} (h : f_X8_store n a0 M = some (r, M')) : mI l yX8_store cX8_store 3 (some .int) { frames := 1, cells := 0, slots := 0, locals := 22 } G adr [.ref (adr 36), .int a0] M sz r M' := by
  refine wEnter (by decide) (Nat.le_of_ble_eq_true rfl) ?_
  intro p e s m below meth c ls cx hinit hl hsz hw
  exact b_X8_store cx hi h (fun pc ls H locs hd hw => w_iret (post := fun (r9 : Int32) (u : Mem) => r9 = r ∧ u = M') (lf := fun u => (LL adr, wf G adr u)) cx.1 cx.2.1 cx.2.2.1 cx.2.2.2.2.2.2 M' hw ⟨rfl, rfl⟩ hd) hl hw
theorem q_22 : Cond.constantLong RX8 68 (9999) ∈ uU := uU_in (by decide +kernel) (by decide +kernel)
def l_X8_great_15 (a0 : Int32) (M : Mem) : Int32 → Option (((Int32) ⊕ (Unit)) ⊕ (Int32)) := fun v2 =>
  Option.bind (ldI M 42 a0) fun v3 =>
  if v3 < v2 then
    some (.inl (.inr ()))
  else
    Option.bind (ldJ M 41 (((24 : Int32) * a0) + v2)) fun v4 =>
    Option.bind (f_X8_abs v4) fun v5 =>
    if v5 ≤ (9999 : Int64) then
      some (.inr (v2 + 1))
    else
      some (.inl (.inl (1 : Int32)))
def f_X8_great (n : Nat) (a0 : Int32) (M : Mem) : Option Int32 :=
  Option.bind (ldI M 42 a0) fun v1 =>
  if v1 < (11 : Int32) then
    Option.bind (lpF (l_X8_great_15 a0 M) n (0 : Int32)) fun r => match r with
    | .inl o => some o
    | .inr () =>
      some (0 : Int32)
  else
    some (1 : Int32)
set_option maxRecDepth 100000 in
set_option maxHeartbeats 8000000 in
theorem b_X8_great {p : Program} {l : Launch} {e : Env} {s : State} {m : MethodId} {args : Array Value} {below : List Frame} {meth : Method} {c : Code} {Q : State → Prop} {G : gG} {A : Nat → Prop} {adr : Nat → Nat} (cx : cX p s m args meth c cX8_great (some .boolean) 3 yX8_great.cls) (hi : adi adr) {n : Nat} {a0 : Int32} {M : Mem} {r : Int32} 
    (h : f_X8_great n a0 M = some r)
    (kr : ∀ (pc : Nat) (ls : Array Slot) (H : Heap) (locs : List Loc), decode cX8_great pc = .ok (.ireturn, 1) → narrow .boolean (.int r) = .int r → wH G A s.heap s (LL adr) (wf G adr M) H locs → W p l e { frames := 1, cells := 0, slots := 0, locals := 21 } s m args below meth c H locs 0 0 Q (F0 m pc ls [.int r]))
    {ls : Array Slot} {H : Heap} {locs : List Loc} (hl : lv_has ls 3 [(0, .ref (adr 36)), (1, .int a0)]) (hw : wH G A s.heap s (LL adr) (wf G adr M) H locs) : W p l e { frames := 1, cells := 0, slots := 0, locals := 21 } s m args below meth c H locs 0 0 Q (F0 m 0 ls []) := by
  obtain ⟨hx, hb, -, -, hown, hts, -⟩ := id cx
  have hown : s.vm.findClass RX8 = some m.cls := hown
  unfold f_X8_great at h
  refine lv_aload_n hx hb dX8_great_0 rfl (lv_at hl 0 rfl) ?_
  refine m_get (k := 36) (C := RX8) (T := TX8) (N := 18) (ref := "LiftFactorsModel") (v := .ref (adr 42)) hx hb hi hts inX8_u hown hw (by decide) rfl 8 (by decide) q_1 rfl rfl dX8_great_1 ?_
  refine lv_iload_n hx hb dX8_great_4 rfl (lv_at hl 1 rfl) ?_
  replace h := bnd h
  obtain ⟨v1, e1, h⟩ := h
  refine m_iald hx hb hi hw e1 dX8_great_5 ?_
  refine lv_bipush (v := (11 : Int32)) hx hb dX8_great_6 (by decide) ?_
  refine lv_icmp_lt (tgt := 13) hx hb dX8_great_8 (by decide) (fun hc => ?_) (fun hc => ?_)
  · replace h := ite_t hc h
    refine lv_iconst (v := (0 : Int32)) hx hb dX8_great_13 (by decide) ?_
    refine lv_istore_n (lv' := [(2, .int (0 : Int32)), (0, .ref (adr 36)), (1, .int a0)]) hx hb dX8_great_14 rfl hl (by decide) rfl (fun ls hl => ?_)
    replace h := bnd h
    obtain ⟨o7, j6, h⟩ := h
    refine lp_W (Wst := fun (st : Int32) => ∀ (ls : Array Slot) (H : Heap) (locs : List Loc), lv_has ls 3 [(0, .ref (adr 36)), (1, .int a0), (2, .int st)] → wH G A s.heap s (LL adr) (wf G adr M) H locs → W p l e { frames := 1, cells := 0, slots := 0, locals := 21 } s m args below meth c H locs 0 0 Q (F0 m 15 ls [])) (fin := fun (r : (Int32) ⊕ (Unit)) => match r with
      | .inl o => ∀ (pc : Nat) (ls : Array Slot) (H : Heap) (locs : List Loc), decode cX8_great pc = .ok (.ireturn, 1) → narrow .boolean (.int o) = .int o → wH G A s.heap s (LL adr) (wf G adr M) H locs → W p l e { frames := 1, cells := 0, slots := 0, locals := 21 } s m args below meth c H locs 0 0 Q (F0 m pc ls [.int o])
      | .inr q => ∀ (ls : Array Slot) (H : Heap) (locs : List Loc), lv_has ls 3 [] → wH G A s.heap s (LL adr) (wf G adr M) H locs → W p l e { frames := 1, cells := 0, slots := 0, locals := 21 } s m args below meth c H locs 0 0 Q (F0 m 54 ls [])) ?_ n _ _ j6 ?_ _ _ _ (lv_sub hl [1, 2, 0] rfl) hw
    · clear h j6 hw hl
      intro v2 x h k1 k2 ls H locs hl hw
      (try dsimp only at k2 hl hw ⊢)
      unfold l_X8_great_15 at h
      (try dsimp only at h)
      refine lv_iload_n hx hb dX8_great_15 rfl (lv_at hl 2 rfl) ?_
      refine lv_aload_n hx hb dX8_great_16 rfl (lv_at hl 0 rfl) ?_
      refine m_get (k := 36) (C := RX8) (T := TX8) (N := 18) (ref := "LiftFactorsModel") (v := .ref (adr 42)) hx hb hi hts inX8_u hown hw (by decide) rfl 8 (by decide) q_1 rfl rfl dX8_great_17 ?_
      refine lv_iload_n hx hb dX8_great_20 rfl (lv_at hl 1 rfl) ?_
      replace h := bnd h
      obtain ⟨v3, e3, h⟩ := h
      refine m_iald hx hb hi hw e3 dX8_great_21 ?_
      refine lv_icmp_gt (tgt := 54) hx hb dX8_great_22 (by decide) (fun hc => ?_) (fun hc => ?_)
      · replace h := ite_t hc h
        cases h
        exact k1 _ rfl _ _ _ (lv_sub hl [] rfl) hw
      · replace h := ite_f hc h
        refine lv_aload_n hx hb dX8_great_25 rfl (lv_at hl 0 rfl) ?_
        refine m_get (k := 36) (C := RX8) (T := TX8) (N := 18) (ref := "LiftFactorsModel") (v := .ref (adr 41)) hx hb hi hts inX8_u hown hw (by decide) rfl 7 (by decide) q_0 rfl rfl dX8_great_26 ?_
        refine lv_bipush (v := (24 : Int32)) hx hb dX8_great_29 (by decide) ?_
        refine lv_iload_n hx hb dX8_great_31 rfl (lv_at hl 1 rfl) ?_
        refine lv_imul hx hb dX8_great_32 ?_
        refine lv_iload_n hx hb dX8_great_33 rfl (lv_at hl 2 rfl) ?_
        refine lv_iadd hx hb dX8_great_34 ?_
        replace h := bnd h
        obtain ⟨v4, e4, h⟩ := h
        refine m_lald hx hb hi hw e4 dX8_great_35 ?_
        replace h := bnd h
        obtain ⟨v5, e5, h⟩ := h
        refine m_callSl (As := [.long v4]) (rest := []) cx.fix hw (cc_X8_abs (l := l) (G := G) (sz := H.size) (M := M) hi e5) (w_cS 1 hts q_2 q_3 q_4 q_5 rfl rfl (by decide) (by decide)) hl.1 rfl (lv_room (Nat.le_of_ble_eq_true rfl)) dX8_great_36 (fun H locs hw => ?_)
        refine lv_ldc2 (v := (9999 : Int64)) hx hb hown (hts _ q_22) dX8_great_39 ?_
        refine m_lcmp_le (tgt := 48) hx hb dX8_great_42 dX8_great_43 (by decide) (fun hc => ?_) (fun hc => ?_)
        · replace h := ite_t hc h
          refine lv_iinc (v := v2 + 1) (lv' := [(2, .int (v2 + 1)), (0, .ref (adr 36)), (1, .int a0)]) hx hb dX8_great_48 hl (k := 2) rfl (inc_p _ (by decide)) (by decide) rfl (fun ls hl => ?_)
          refine lv_goto (tgt := 15) hx hb dX8_great_51 (by decide) ?_
          cases h
          exact k2 _ rfl _ _ _ (lv_sub hl [1, 2, 0] rfl) hw
        · replace h := ite_f hc h
          refine lv_iconst (v := (1 : Int32)) hx hb dX8_great_46 (by decide) ?_
          cases h
          exact k1 _ rfl _ _ _ _ dX8_great_47 (by decide) hw
    · clear hw hl j6
      rcases o7 with o9 | _
      · cases h
        exact kr
      · intro ls H locs hl hw
        (try dsimp only at h hl hw ⊢)
        refine lv_iconst (v := (0 : Int32)) hx hb dX8_great_54 (by decide) ?_
        cases h
        exact kr _ _ _ _ dX8_great_55 (by decide) hw
  · replace h := ite_f hc h
    refine lv_iconst (v := (1 : Int32)) hx hb dX8_great_11 (by decide) ?_
    cases h
    exact kr _ _ _ _ dX8_great_12 (by decide) hw
theorem cc_X8_great {l : Launch} {G : gG} {adr : Nat → Nat} {sz : Nat} (hi : adi adr) {n : Nat} {a0 : Int32} {M : Mem} {r : Int32} (h : f_X8_great n a0 M = some r) : mI l yX8_great cX8_great 3 (some .boolean) { frames := 1, cells := 0, slots := 0, locals := 21 } G adr [.ref (adr 36), .int a0] M sz r M := by
  refine wEnter (by decide) (Nat.le_of_ble_eq_true rfl) ?_
  intro p e s m below meth c ls cx hinit hl hsz hw
  exact b_X8_great cx hi h (fun pc ls H locs hd hz hw => w_zret (post := fun (r9 : Int32) (u : Mem) => r9 = r ∧ u = M) (lf := fun u => (LL adr, wf G adr u)) cx.1 cx.2.1 cx.2.2.1 cx.2.2.2.2.2.2 hz M hw ⟨rfl, rfl⟩ hd) hl hw
def f_X8_isPoly (a0 : Int32) : Option Int32 :=
  Option.bind (
    if a0 < 0 then
      some (0 : Int32)
    else
      if (80 : Int32) ≤ a0 then
        some (0 : Int32)
      else
        some (1 : Int32)) fun v1 =>
  Option.bind (bz v1) fun v2 =>
  some v2
set_option maxRecDepth 100000 in
set_option maxHeartbeats 8000000 in
theorem b_X8_isPoly {p : Program} {l : Launch} {e : Env} {s : State} {m : MethodId} {args : Array Value} {below : List Frame} {meth : Method} {c : Code} {Q : State → Prop} {G : gG} {A : Nat → Prop} {adr : Nat → Nat} (cx : cX p s m args meth c cX8_isPoly (some .boolean) 1 yX8_isPoly.cls) (hi : adi adr) {a0 : Int32} {M : Mem} {r : Int32} 
    (h : f_X8_isPoly a0 = some r)
    (kr : ∀ (pc : Nat) (ls : Array Slot) (H : Heap) (locs : List Loc), decode cX8_isPoly pc = .ok (.ireturn, 1) → narrow .boolean (.int r) = .int r → wH G A s.heap s (LL adr) (wf G adr M) H locs → W p l e { frames := 0, cells := 0, slots := 0, locals := 0 } s m args below meth c H locs 0 0 Q (F0 m pc ls [.int r]))
    {ls : Array Slot} {H : Heap} {locs : List Loc} (hl : lv_has ls 1 [(0, .int a0)]) (hw : wH G A s.heap s (LL adr) (wf G adr M) H locs) : W p l e { frames := 0, cells := 0, slots := 0, locals := 0 } s m args below meth c H locs 0 0 Q (F0 m 0 ls []) := by
  obtain ⟨hx, hb, -, -, hown, hts, -⟩ := id cx
  have hown : s.vm.findClass RX8 = some m.cls := hown
  unfold f_X8_isPoly at h
  refine lv_iload_n hx hb dX8_isPoly_0 rfl (lv_at hl 0 rfl) ?_
  replace h := bnd h
  obtain ⟨v1, j3, h⟩ := h
  have kj : ∀ (ls : Array Slot) (H : Heap) (locs : List Loc), lv_has ls 1 [] → wH G A s.heap s (LL adr) (wf G adr M) H locs → W p l e { frames := 0, cells := 0, slots := 0, locals := 0 } s m args below meth c H locs 0 0 Q (F0 m 15 ls [.int v1]) := by
    intro ls H locs hl hw
    replace h := bnd h
    obtain ⟨v2, e9, h⟩ := h
    obtain ⟨rfl, e9⟩ := bz_ok e9
    cases h
    exact kr _ _ _ _ dX8_isPoly_15 e9 hw
  clear h
  replace h := j3
  clear j3
  refine lv_if_lt (tgt := 14) hx hb dX8_isPoly_1 (by decide) (fun hc => ?_) (fun hc => ?_)
  · replace h := ite_t hc h
    refine lv_iconst (v := (0 : Int32)) hx hb dX8_isPoly_14 (by decide) ?_
    cases h
    exact kj _ _ _ (lv_sub hl [] rfl) hw
  · replace h := ite_f hc h
    refine lv_iload_n hx hb dX8_isPoly_4 rfl (lv_at hl 0 rfl) ?_
    refine lv_bipush (v := (80 : Int32)) hx hb dX8_isPoly_5 (by decide) ?_
    refine lv_icmp_ge (tgt := 14) hx hb dX8_isPoly_7 (by decide) (fun hc => ?_) (fun hc => ?_)
    · replace h := ite_t hc h
      refine lv_iconst (v := (0 : Int32)) hx hb dX8_isPoly_14 (by decide) ?_
      cases h
      exact kj _ _ _ (lv_sub hl [] rfl) hw
    · replace h := ite_f hc h
      refine lv_iconst (v := (1 : Int32)) hx hb dX8_isPoly_10 (by decide) ?_
      refine lv_goto (tgt := 15) hx hb dX8_isPoly_11 (by decide) ?_
      cases h
      exact kj _ _ _ (lv_sub hl [] rfl) hw
theorem cc_X8_isPoly {l : Launch} {G : gG} {adr : Nat → Nat} {sz : Nat} (hi : adi adr) {a0 : Int32} {M : Mem} {r : Int32} (h : f_X8_isPoly a0 = some r) : mI l yX8_isPoly cX8_isPoly 1 (some .boolean) { frames := 0, cells := 0, slots := 0, locals := 0 } G adr [.int a0] M sz r M := by
  refine wEnter (by decide) (Nat.le_of_ble_eq_true rfl) ?_
  intro p e s m below meth c ls cx hinit hl hsz hw
  exact b_X8_isPoly cx hi h (fun pc ls H locs hd hz hw => w_zret (post := fun (r9 : Int32) (u : Mem) => r9 = r ∧ u = M) (lf := fun u => (LL adr, wf G adr u)) cx.1 cx.2.1 cx.2.2.1 cx.2.2.2.2.2.2 hz M hw ⟨rfl, rfl⟩ hd) hl hw
def f_X8_isPower (a0 : Int32) : Option Int32 :=
  Option.bind (
    if a0 < 0 then
      some (0 : Int32)
    else
      if (11 : Int32) ≤ a0 then
        some (0 : Int32)
      else
        some (1 : Int32)) fun v1 =>
  Option.bind (bz v1) fun v2 =>
  some v2
set_option maxRecDepth 100000 in
set_option maxHeartbeats 8000000 in
theorem b_X8_isPower {p : Program} {l : Launch} {e : Env} {s : State} {m : MethodId} {args : Array Value} {below : List Frame} {meth : Method} {c : Code} {Q : State → Prop} {G : gG} {A : Nat → Prop} {adr : Nat → Nat} (cx : cX p s m args meth c cX8_isPower (some .boolean) 1 yX8_isPower.cls) (hi : adi adr) {a0 : Int32} {M : Mem} {r : Int32} 
    (h : f_X8_isPower a0 = some r)
    (kr : ∀ (pc : Nat) (ls : Array Slot) (H : Heap) (locs : List Loc), decode cX8_isPower pc = .ok (.ireturn, 1) → narrow .boolean (.int r) = .int r → wH G A s.heap s (LL adr) (wf G adr M) H locs → W p l e { frames := 0, cells := 0, slots := 0, locals := 0 } s m args below meth c H locs 0 0 Q (F0 m pc ls [.int r]))
    {ls : Array Slot} {H : Heap} {locs : List Loc} (hl : lv_has ls 1 [(0, .int a0)]) (hw : wH G A s.heap s (LL adr) (wf G adr M) H locs) : W p l e { frames := 0, cells := 0, slots := 0, locals := 0 } s m args below meth c H locs 0 0 Q (F0 m 0 ls []) := by
  obtain ⟨hx, hb, -, -, hown, hts, -⟩ := id cx
  have hown : s.vm.findClass RX8 = some m.cls := hown
  unfold f_X8_isPower at h
  refine lv_iload_n hx hb dX8_isPower_0 rfl (lv_at hl 0 rfl) ?_
  replace h := bnd h
  obtain ⟨v1, j3, h⟩ := h
  have kj : ∀ (ls : Array Slot) (H : Heap) (locs : List Loc), lv_has ls 1 [] → wH G A s.heap s (LL adr) (wf G adr M) H locs → W p l e { frames := 0, cells := 0, slots := 0, locals := 0 } s m args below meth c H locs 0 0 Q (F0 m 15 ls [.int v1]) := by
    intro ls H locs hl hw
    replace h := bnd h
    obtain ⟨v2, e9, h⟩ := h
    obtain ⟨rfl, e9⟩ := bz_ok e9
    cases h
    exact kr _ _ _ _ dX8_isPower_15 e9 hw
  clear h
  replace h := j3
  clear j3
  refine lv_if_lt (tgt := 14) hx hb dX8_isPower_1 (by decide) (fun hc => ?_) (fun hc => ?_)
  · replace h := ite_t hc h
    refine lv_iconst (v := (0 : Int32)) hx hb dX8_isPower_14 (by decide) ?_
    cases h
    exact kj _ _ _ (lv_sub hl [] rfl) hw
  · replace h := ite_f hc h
    refine lv_iload_n hx hb dX8_isPower_4 rfl (lv_at hl 0 rfl) ?_
    refine lv_bipush (v := (11 : Int32)) hx hb dX8_isPower_5 (by decide) ?_
    refine lv_icmp_ge (tgt := 14) hx hb dX8_isPower_7 (by decide) (fun hc => ?_) (fun hc => ?_)
    · replace h := ite_t hc h
      refine lv_iconst (v := (0 : Int32)) hx hb dX8_isPower_14 (by decide) ?_
      cases h
      exact kj _ _ _ (lv_sub hl [] rfl) hw
    · replace h := ite_f hc h
      refine lv_iconst (v := (1 : Int32)) hx hb dX8_isPower_10 (by decide) ?_
      refine lv_goto (tgt := 15) hx hb dX8_isPower_11 (by decide) ?_
      cases h
      exact kj _ _ _ (lv_sub hl [] rfl) hw
theorem cc_X8_isPower {l : Launch} {G : gG} {adr : Nat → Nat} {sz : Nat} (hi : adi adr) {a0 : Int32} {M : Mem} {r : Int32} (h : f_X8_isPower a0 = some r) : mI l yX8_isPower cX8_isPower 1 (some .boolean) { frames := 0, cells := 0, slots := 0, locals := 0 } G adr [.int a0] M sz r M := by
  refine wEnter (by decide) (Nat.le_of_ble_eq_true rfl) ?_
  intro p e s m below meth c ls cx hinit hl hsz hw
  exact b_X8_isPower cx hi h (fun pc ls H locs hd hz hw => w_zret (post := fun (r9 : Int32) (u : Mem) => r9 = r ∧ u = M) (lf := fun u => (LL adr, wf G adr u)) cx.1 cx.2.1 cx.2.2.1 cx.2.2.2.2.2.2 hz M hw ⟨rfl, rfl⟩ hd) hl hw
def l_X8_derive_2 (a0 : Int32) (a1 : Int32) : Mem × Int32 → Option ((Mem) ⊕ (Mem × Int32)) := fun (M1, v2) =>
  Option.bind (ldI M1 42 a0) fun v3 =>
  if v3 < v2 then
    some (.inl M1)
  else
    Option.bind (ldJ M1 41 (((24 : Int32) * a0) + v2)) fun v4 =>
    Option.bind (stJ M1 41 ((((24 : Int32) * a1) + v2) - (1 : Int32)) (v2.toInt64 * v4)) fun v5 =>
    some (.inr (v5, v2 + 1))
def f_X8_derive (n : Nat) (a0 : Int32) (a1 : Int32) (M : Mem) : Option Mem :=
  Option.bind (lpF (l_X8_derive_2 a0 a1) n (M, (1 : Int32))) fun M7 =>
  Option.bind (ldI M7 42 a0) fun v8 =>
  Option.bind (f_X8_trim n a1 (v8 - (1 : Int32)) M7) fun v9 =>
  some v9
set_option maxRecDepth 100000 in
set_option maxHeartbeats 8000000 in
theorem b_X8_derive {p : Program} {l : Launch} {e : Env} {s : State} {m : MethodId} {args : Array Value} {below : List Frame} {meth : Method} {c : Code} {Q : State → Prop} {G : gG} {A : Nat → Prop} {adr : Nat → Nat} (cx : cX p s m args meth c cX8_derive none 4 yX8_derive.cls) (hi : adi adr) {n : Nat} {a0 : Int32} {a1 : Int32} {M M' : Mem} 
    (h : f_X8_derive n a0 a1 M = some M')
    (kr : ∀ (pc : Nat) (ls : Array Slot) (H : Heap) (locs : List Loc), decode cX8_derive pc = .ok (.return_, 1) → wH G A s.heap s (LL adr) (wf G adr M') H locs → W p l e { frames := 1, cells := 0, slots := 0, locals := 23 } s m args below meth c H locs 0 0 Q (F0 m pc ls []))
    {ls : Array Slot} {H : Heap} {locs : List Loc} (hl : lv_has ls 4 [(0, .ref (adr 36)), (1, .int a0), (2, .int a1)]) (hw : wH G A s.heap s (LL adr) (wf G adr M) H locs) : W p l e { frames := 1, cells := 0, slots := 0, locals := 23 } s m args below meth c H locs 0 0 Q (F0 m 0 ls []) := by
  obtain ⟨hx, hb, -, -, hown, hts, -⟩ := id cx
  have hown : s.vm.findClass RX8 = some m.cls := hown
  unfold f_X8_derive at h
  refine lv_iconst (v := (1 : Int32)) hx hb dX8_derive_0 (by decide) ?_
  refine lv_istore_n (lv' := [(3, .int (1 : Int32)), (0, .ref (adr 36)), (1, .int a0), (2, .int a1)]) hx hb dX8_derive_1 rfl hl (by decide) rfl (fun ls hl => ?_)
  replace h := bnd h
  obtain ⟨M7, j6, h⟩ := h
  refine lp_W (Wst := fun (st : Mem × Int32) => ∀ (ls : Array Slot) (H : Heap) (locs : List Loc), lv_has ls 4 [(0, .ref (adr 36)), (1, .int a0), (2, .int a1), (3, .int st.2)] → wH G A s.heap s (LL adr) (wf G adr st.1) H locs → W p l e { frames := 1, cells := 0, slots := 0, locals := 23 } s m args below meth c H locs 0 0 Q (F0 m 2 ls [])) (fin := fun (r : Mem) => ∀ (ls : Array Slot) (H : Heap) (locs : List Loc), lv_has ls 4 [(0, .ref (adr 36)), (1, .int a0), (2, .int a1)] → wH G A s.heap s (LL adr) (wf G adr r) H locs → W p l e { frames := 1, cells := 0, slots := 0, locals := 23 } s m args below meth c H locs 0 0 Q (F0 m 45 ls [])) ?_ n _ _ j6 ?_ _ _ _ (lv_sub hl [1, 2, 3, 0] rfl) hw
  · clear h j6 hw hl
    intro ⟨M1, v2⟩ x h k1 k2 ls H locs hl hw
    (try dsimp only at k1 k2 hl hw ⊢)
    unfold l_X8_derive_2 at h
    (try dsimp only at h)
    refine lv_iload_n hx hb dX8_derive_2 rfl (lv_at hl 3 rfl) ?_
    refine lv_aload_n hx hb dX8_derive_3 rfl (lv_at hl 0 rfl) ?_
    refine m_get (k := 36) (C := RX8) (T := TX8) (N := 18) (ref := "LiftFactorsModel") (v := .ref (adr 42)) hx hb hi hts inX8_u hown hw (by decide) rfl 8 (by decide) q_1 rfl rfl dX8_derive_4 ?_
    refine lv_iload_n hx hb dX8_derive_7 rfl (lv_at hl 1 rfl) ?_
    replace h := bnd h
    obtain ⟨v3, e3, h⟩ := h
    refine m_iald hx hb hi hw e3 dX8_derive_8 ?_
    refine lv_icmp_gt (tgt := 45) hx hb dX8_derive_9 (by decide) (fun hc => ?_) (fun hc => ?_)
    · replace h := ite_t hc h
      cases h
      exact k1 _ rfl _ _ _ (lv_sub hl [0, 1, 2] rfl) hw
    · replace h := ite_f hc h
      refine lv_aload_n hx hb dX8_derive_12 rfl (lv_at hl 0 rfl) ?_
      refine m_get (k := 36) (C := RX8) (T := TX8) (N := 18) (ref := "LiftFactorsModel") (v := .ref (adr 41)) hx hb hi hts inX8_u hown hw (by decide) rfl 7 (by decide) q_0 rfl rfl dX8_derive_13 ?_
      refine lv_bipush (v := (24 : Int32)) hx hb dX8_derive_16 (by decide) ?_
      refine lv_iload_n hx hb dX8_derive_18 rfl (lv_at hl 2 rfl) ?_
      refine lv_imul hx hb dX8_derive_19 ?_
      refine lv_iload_n hx hb dX8_derive_20 rfl (lv_at hl 3 rfl) ?_
      refine lv_iadd hx hb dX8_derive_21 ?_
      refine lv_iconst (v := (1 : Int32)) hx hb dX8_derive_22 (by decide) ?_
      refine lv_isub hx hb dX8_derive_23 ?_
      refine lv_iload_n hx hb dX8_derive_24 rfl (lv_at hl 3 rfl) ?_
      refine lv_i2l (v := v2.toInt64) hx hb dX8_derive_25 rfl ?_
      refine lv_aload_n hx hb dX8_derive_26 rfl (lv_at hl 0 rfl) ?_
      refine m_get (k := 36) (C := RX8) (T := TX8) (N := 18) (ref := "LiftFactorsModel") (v := .ref (adr 41)) hx hb hi hts inX8_u hown hw (by decide) rfl 7 (by decide) q_0 rfl rfl dX8_derive_27 ?_
      refine lv_bipush (v := (24 : Int32)) hx hb dX8_derive_30 (by decide) ?_
      refine lv_iload_n hx hb dX8_derive_32 rfl (lv_at hl 1 rfl) ?_
      refine lv_imul hx hb dX8_derive_33 ?_
      refine lv_iload_n hx hb dX8_derive_34 rfl (lv_at hl 3 rfl) ?_
      refine lv_iadd hx hb dX8_derive_35 ?_
      replace h := bnd h
      obtain ⟨v4, e4, h⟩ := h
      refine m_lald hx hb hi hw e4 dX8_derive_36 ?_
      refine lv_lmul hx hb dX8_derive_37 ?_
      replace h := bnd h
      obtain ⟨v5, e5, h⟩ := h
      refine m_last hx hb hi hw e5 dX8_derive_38 (fun H locs hw => ?_)
      refine lv_iinc (v := v2 + 1) (lv' := [(3, .int (v2 + 1)), (0, .ref (adr 36)), (1, .int a0), (2, .int a1)]) hx hb dX8_derive_39 hl (k := 3) rfl (inc_p _ (by decide)) (by decide) rfl (fun ls hl => ?_)
      refine lv_goto (tgt := 2) hx hb dX8_derive_42 (by decide) ?_
      cases h
      exact k2 _ rfl _ _ _ (lv_sub hl [1, 2, 3, 0] rfl) hw
  · clear hw hl
    intro ls H locs hl hw
    (try dsimp only at hl hw ⊢)
    refine lv_aload_n hx hb dX8_derive_45 rfl (lv_at hl 0 rfl) ?_
    refine lv_iload_n hx hb dX8_derive_46 rfl (lv_at hl 2 rfl) ?_
    refine lv_aload_n hx hb dX8_derive_47 rfl (lv_at hl 0 rfl) ?_
    refine m_get (k := 36) (C := RX8) (T := TX8) (N := 18) (ref := "LiftFactorsModel") (v := .ref (adr 42)) hx hb hi hts inX8_u hown hw (by decide) rfl 8 (by decide) q_1 rfl rfl dX8_derive_48 ?_
    refine lv_iload_n hx hb dX8_derive_51 rfl (lv_at hl 1 rfl) ?_
    replace h := bnd h
    obtain ⟨v8, e8, h⟩ := h
    refine m_iald hx hb hi hw e8 dX8_derive_52 ?_
    refine lv_iconst (v := (1 : Int32)) hx hb dX8_derive_53 (by decide) ?_
    refine lv_isub hx hb dX8_derive_54 ?_
    replace h := bnd h
    obtain ⟨v9, e9, h⟩ := h
    refine m_callVv (k := 36) (As := [.int a1, .int (v8 - (1 : Int32))]) (rest := []) cx.fix hi hw (cc_X8_trim (l := l) (G := G) (sz := H.size) hi e9) (by decide) rfl rfl (w_cV 2 hts q_11 q_12 q_13 q_14 q_15 rfl rfl (by decide) (by decide)) hl.1 rfl (lv_room (Nat.le_of_ble_eq_true rfl)) dX8_derive_55 (fun H locs hw => ?_)
    cases h
    exact kr _ _ _ _ dX8_derive_58 hw
theorem cc_X8_derive {l : Launch} {G : gG} {adr : Nat → Nat} {sz : Nat} (hi : adi adr) {n : Nat} {a0 : Int32} {a1 : Int32} {M M' : Mem} (h : f_X8_derive n a0 a1 M = some M') : mV l yX8_derive cX8_derive 4 none { frames := 1, cells := 0, slots := 0, locals := 23 } G adr [.ref (adr 36), .int a0, .int a1] M sz M' := by
  refine wEnter (by decide) (Nat.le_of_ble_eq_true rfl) ?_
  intro p e s m below meth c ls cx hinit hl hsz hw
  exact b_X8_derive cx hi h (fun pc ls H locs hd hw => w_vret (post := fun (u : Mem) => u = M') (lf := fun u => (LL adr, wf G adr u)) cx.1 cx.2.1 cx.2.2.1 cx.2.2.2.2.2.2 M' hw rfl hd) hl hw
theorem q_23 : Cond.constantLong RX8 70 (20000000) ∈ uU := uU_in (by decide +kernel) (by decide +kernel)
theorem q_24 : Cond.methodLink RX8 72 yX8_copy ∈ uU := uU_in (by decide +kernel) (by decide +kernel)
theorem q_25 : Cond.instanceMethod yX8_copy ∈ uU := uU_in (by decide +kernel) (by decide +kernel)
theorem q_26 : Cond.selects yX8_copy.cls yX8_copy yX8_copy ∈ uU := uU_in (by decide +kernel) (by decide +kernel)
theorem q_27 : Cond.initialized yX8_copy.cls ∈ uU := uU_in (by decide +kernel) (by decide +kernel)
theorem q_28 : Cond.code yX8_copy cX8_copy 4 none ∈ uU := uU_in (by decide +kernel) (by decide +kernel)
def l_X8_divides_14 (a0 : Int32) (M : Mem) : Int32 → Option (((Int32 × Mem) ⊕ (Unit)) ⊕ (Int32)) := fun v2 =>
  Option.bind (ldI M 42 a0) fun v3 =>
  if v3 < v2 then
    some (.inl (.inr ()))
  else
    Option.bind (ldJ M 41 (((24 : Int32) * a0) + v2)) fun v4 =>
    Option.bind (f_X8_abs v4) fun v5 =>
    if v5 ≤ (20000000 : Int64) then
      some (.inr (v2 + 1))
    else
      some (.inl (.inl ((0 : Int32), M)))
def l_X8_divides_169 (a0 : Int32) (v13 : Int32) (v20 : Int64) : Mem × Int32 → Option ((Mem) ⊕ (Mem × Int32)) := fun (M22, v23) =>
  Option.bind (ldI M22 42 a0) fun v24 =>
  if v24 < v23 then
    some (.inl M22)
  else
    Option.bind (ldJ M22 41 (((96 : Int32) + v13) + v23)) fun v25 =>
    Option.bind (ldJ M22 41 (((24 : Int32) * a0) + v23)) fun v26 =>
    Option.bind (stJ M22 41 (((96 : Int32) + v13) + v23) (v25 - (v20 * v26))) fun v27 =>
    some (.inr (v27, v23 + 1))
def l_X8_divides_98 (n : Nat) (a0 : Int32) (a2 : Int64) (v11 : Int64) : Mem × Int32 → Option (((Int32 × Mem) ⊕ (Mem)) ⊕ (Mem × Int32)) := fun (M12, v13) =>
  if v13 < 0 then
    some (.inl (.inr M12))
  else
    Option.bind (ldI M12 42 a0) fun v15 =>
    Option.bind (ldJ M12 41 (((96 : Int32) + v13) + v15)) fun v16 =>
    Option.bind (rmJ v16 v11) fun v17 =>
    if v17 = (0 : Int64) then
      Option.bind (dvJ v16 v11) fun v18 =>
      Option.bind (f_X8_abs v18) fun v19 =>
      if v19 ≤ a2 then
        Option.bind (dvJ v16 v11) fun v20 =>
        Option.bind (stJ M12 41 ((72 : Int32) + v13) v20) fun v21 =>
        Option.bind (lpF (l_X8_divides_169 a0 v13 v20) n (v21, (0 : Int32))) fun M29 =>
        some (.inr (M29, v13 + (-1)))
      else
        some (.inl (.inl ((0 : Int32), M12)))
    else
      some (.inl (.inl ((0 : Int32), M12)))
def l_X8_divides_226 (a1 : Int32) (M31 : Mem) : Int32 → Option (((Int32 × Mem) ⊕ (Unit)) ⊕ (Int32)) := fun v32 =>
  Option.bind (ldI M31 42 a1) fun v34 =>
  if v34 < v32 then
    some (.inl (.inr ()))
  else
    Option.bind (ldJ M31 41 ((96 : Int32) + v32)) fun v35 =>
    if v35 = (0 : Int64) then
      some (.inr (v32 + 1))
    else
      some (.inl (.inl ((0 : Int32), M31)))
def f_X8_divides (n : Nat) (a0 : Int32) (a1 : Int32) (a2 : Int64) (M : Mem) : Option (Int32 × Mem) :=
  Option.bind (ldI M 42 a0) fun v1 =>
  if 0 ≤ v1 then
    Option.bind (lpF (l_X8_divides_14 a0 M) n (0 : Int32)) fun r => match r with
    | .inl o => some o
    | .inr () =>
      Option.bind (f_X8_copy n a1 (4 : Int32) M) fun v7 =>
      Option.bind (ldI v7 42 a1) fun v8 =>
      Option.bind (ldI v7 42 a0) fun v9 =>
      Option.bind (ldI v7 42 a0) fun v10 =>
      Option.bind (ldJ v7 41 (((24 : Int32) * a0) + v10)) fun v11 =>
      Option.bind (lpF (l_X8_divides_98 n a0 a2 v11) n (v7, v8 - v9)) fun r => match r with
      | .inl o => some o
      | .inr M31 =>
        Option.bind (lpF (l_X8_divides_226 a1 M31) n (0 : Int32)) fun r => match r with
        | .inl o => some o
        | .inr () =>
          Option.bind (f_X8_trim n (3 : Int32) (v8 - v9) M31) fun v37 =>
          some ((1 : Int32), v37)
  else
    some ((0 : Int32), M)
set_option maxRecDepth 100000 in
set_option maxHeartbeats 8000000 in
theorem b_X8_divides {p : Program} {l : Launch} {e : Env} {s : State} {m : MethodId} {args : Array Value} {below : List Frame} {meth : Method} {c : Code} {Q : State → Prop} {G : gG} {A : Nat → Prop} {adr : Nat → Nat} (cx : cX p s m args meth c cX8_divides (some .boolean) 14 yX8_divides.cls) (hi : adi adr) {n : Nat} {a0 : Int32} {a1 : Int32} {a2 : Int64} {M M' : Mem} {r : Int32} 
    (h : f_X8_divides n a0 a1 a2 M = some (r, M'))
    (kr : ∀ (pc : Nat) (ls : Array Slot) (H : Heap) (locs : List Loc), decode cX8_divides pc = .ok (.ireturn, 1) → narrow .boolean (.int r) = .int r → wH G A s.heap s (LL adr) (wf G adr M') H locs → W p l e { frames := 1, cells := 0, slots := 0, locals := 23 } s m args below meth c H locs 0 0 Q (F0 m pc ls [.int r]))
    {ls : Array Slot} {H : Heap} {locs : List Loc} (hl : lv_has ls 14 [(0, .ref (adr 36)), (1, .int a0), (2, .int a1), (3, .long a2)]) (hw : wH G A s.heap s (LL adr) (wf G adr M) H locs) : W p l e { frames := 1, cells := 0, slots := 0, locals := 23 } s m args below meth c H locs 0 0 Q (F0 m 0 ls []) := by
  obtain ⟨hx, hb, -, -, hown, hts, -⟩ := id cx
  have hown : s.vm.findClass RX8 = some m.cls := hown
  unfold f_X8_divides at h
  refine lv_aload_n hx hb dX8_divides_0 rfl (lv_at hl 0 rfl) ?_
  refine m_get (k := 36) (C := RX8) (T := TX8) (N := 18) (ref := "LiftFactorsModel") (v := .ref (adr 42)) hx hb hi hts inX8_u hown hw (by decide) rfl 8 (by decide) q_1 rfl rfl dX8_divides_1 ?_
  refine lv_iload_n hx hb dX8_divides_4 rfl (lv_at hl 1 rfl) ?_
  replace h := bnd h
  obtain ⟨v1, e1, h⟩ := h
  refine m_iald hx hb hi hw e1 dX8_divides_5 ?_
  refine lv_if_ge (tgt := 11) hx hb dX8_divides_6 (by decide) (fun hc => ?_) (fun hc => ?_)
  · replace h := ite_t hc h
    refine lv_iconst (v := (0 : Int32)) hx hb dX8_divides_11 (by decide) ?_
    refine lv_istore (lv' := [(5, .int (0 : Int32)), (0, .ref (adr 36)), (1, .int a0), (2, .int a1), (3, .long a2)]) hx hb dX8_divides_12 hl (by decide) rfl (fun ls hl => ?_)
    replace h := bnd h
    obtain ⟨o40, j6, h⟩ := h
    refine lp_W (Wst := fun (st : Int32) => ∀ (ls : Array Slot) (H : Heap) (locs : List Loc), lv_has ls 14 [(0, .ref (adr 36)), (1, .int a0), (2, .int a1), (3, .long a2), (5, .int st)] → wH G A s.heap s (LL adr) (wf G adr M) H locs → W p l e { frames := 1, cells := 0, slots := 0, locals := 23 } s m args below meth c H locs 0 0 Q (F0 m 14 ls [])) (fin := fun (r : (Int32 × Mem) ⊕ (Unit)) => match r with
      | .inl o => ∀ (pc : Nat) (ls : Array Slot) (H : Heap) (locs : List Loc), decode cX8_divides pc = .ok (.ireturn, 1) → narrow .boolean (.int o.1) = .int o.1 → wH G A s.heap s (LL adr) (wf G adr o.2) H locs → W p l e { frames := 1, cells := 0, slots := 0, locals := 23 } s m args below meth c H locs 0 0 Q (F0 m pc ls [.int o.1])
      | .inr q => ∀ (ls : Array Slot) (H : Heap) (locs : List Loc), lv_has ls 14 [(0, .ref (adr 36)), (1, .int a0), (2, .int a1), (3, .long a2)] → wH G A s.heap s (LL adr) (wf G adr M) H locs → W p l e { frames := 1, cells := 0, slots := 0, locals := 23 } s m args below meth c H locs 0 0 Q (F0 m 55 ls [])) ?_ n _ _ j6 ?_ _ _ _ (lv_sub hl [1, 2, 3, 4, 0] rfl) hw
    · clear h j6 hw hl
      intro v2 x h k1 k2 ls H locs hl hw
      (try dsimp only at k2 hl hw ⊢)
      unfold l_X8_divides_14 at h
      (try dsimp only at h)
      refine lv_iload hx hb dX8_divides_14 (lv_at hl 4 rfl) ?_
      refine lv_aload_n hx hb dX8_divides_16 rfl (lv_at hl 0 rfl) ?_
      refine m_get (k := 36) (C := RX8) (T := TX8) (N := 18) (ref := "LiftFactorsModel") (v := .ref (adr 42)) hx hb hi hts inX8_u hown hw (by decide) rfl 8 (by decide) q_1 rfl rfl dX8_divides_17 ?_
      refine lv_iload_n hx hb dX8_divides_20 rfl (lv_at hl 1 rfl) ?_
      replace h := bnd h
      obtain ⟨v3, e3, h⟩ := h
      refine m_iald hx hb hi hw e3 dX8_divides_21 ?_
      refine lv_icmp_gt (tgt := 55) hx hb dX8_divides_22 (by decide) (fun hc => ?_) (fun hc => ?_)
      · replace h := ite_t hc h
        cases h
        exact k1 _ rfl _ _ _ (lv_sub hl [0, 1, 2, 3] rfl) hw
      · replace h := ite_f hc h
        refine lv_aload_n hx hb dX8_divides_25 rfl (lv_at hl 0 rfl) ?_
        refine m_get (k := 36) (C := RX8) (T := TX8) (N := 18) (ref := "LiftFactorsModel") (v := .ref (adr 41)) hx hb hi hts inX8_u hown hw (by decide) rfl 7 (by decide) q_0 rfl rfl dX8_divides_26 ?_
        refine lv_bipush (v := (24 : Int32)) hx hb dX8_divides_29 (by decide) ?_
        refine lv_iload_n hx hb dX8_divides_31 rfl (lv_at hl 1 rfl) ?_
        refine lv_imul hx hb dX8_divides_32 ?_
        refine lv_iload hx hb dX8_divides_33 (lv_at hl 4 rfl) ?_
        refine lv_iadd hx hb dX8_divides_35 ?_
        replace h := bnd h
        obtain ⟨v4, e4, h⟩ := h
        refine m_lald hx hb hi hw e4 dX8_divides_36 ?_
        replace h := bnd h
        obtain ⟨v5, e5, h⟩ := h
        refine m_callSl (As := [.long v4]) (rest := []) cx.fix hw (cc_X8_abs (l := l) (G := G) (sz := H.size) (M := M) hi e5) (w_cS 1 hts q_2 q_3 q_4 q_5 rfl rfl (by decide) (by decide)) hl.1 rfl (lv_room (Nat.le_of_ble_eq_true rfl)) dX8_divides_37 (fun H locs hw => ?_)
        refine lv_ldc2 (v := (20000000 : Int64)) hx hb hown (hts _ q_23) dX8_divides_40 ?_
        refine m_lcmp_le (tgt := 49) hx hb dX8_divides_43 dX8_divides_44 (by decide) (fun hc => ?_) (fun hc => ?_)
        · replace h := ite_t hc h
          refine lv_iinc (v := v2 + 1) (lv' := [(5, .int (v2 + 1)), (0, .ref (adr 36)), (1, .int a0), (2, .int a1), (3, .long a2)]) hx hb dX8_divides_49 hl (k := 4) rfl (inc_p _ (by decide)) (by decide) rfl (fun ls hl => ?_)
          refine lv_goto (tgt := 14) hx hb dX8_divides_52 (by decide) ?_
          cases h
          exact k2 _ rfl _ _ _ (lv_sub hl [1, 2, 3, 4, 0] rfl) hw
        · replace h := ite_f hc h
          refine lv_iconst (v := (0 : Int32)) hx hb dX8_divides_47 (by decide) ?_
          cases h
          exact k1 _ rfl _ _ _ _ dX8_divides_48 (by decide) hw
    · clear hw hl j6
      rcases o40 with o9 | _
      · cases h
        exact kr
      · intro ls H locs hl hw
        (try dsimp only at h hl hw ⊢)
        refine lv_aload_n hx hb dX8_divides_55 rfl (lv_at hl 0 rfl) ?_
        refine lv_iload_n hx hb dX8_divides_56 rfl (lv_at hl 2 rfl) ?_
        refine lv_iconst (v := (4 : Int32)) hx hb dX8_divides_57 (by decide) ?_
        replace h := bnd h
        obtain ⟨v7, e7, h⟩ := h
        refine m_callVv (k := 36) (As := [.int a1, .int (4 : Int32)]) (rest := []) cx.fix hi hw (cc_X8_copy (l := l) (G := G) (sz := H.size) hi e7) (by decide) rfl rfl (w_cV 2 hts q_24 q_25 q_26 q_27 q_28 rfl rfl (by decide) (by decide)) hl.1 rfl (lv_room (Nat.le_of_ble_eq_true rfl)) dX8_divides_58 (fun H locs hw => ?_)
        refine lv_aload_n hx hb dX8_divides_61 rfl (lv_at hl 0 rfl) ?_
        refine m_get (k := 36) (C := RX8) (T := TX8) (N := 18) (ref := "LiftFactorsModel") (v := .ref (adr 42)) hx hb hi hts inX8_u hown hw (by decide) rfl 8 (by decide) q_1 rfl rfl dX8_divides_62 ?_
        refine lv_iload_n hx hb dX8_divides_65 rfl (lv_at hl 2 rfl) ?_
        replace h := bnd h
        obtain ⟨v8, e8, h⟩ := h
        refine m_iald hx hb hi hw e8 dX8_divides_66 ?_
        refine lv_aload_n hx hb dX8_divides_67 rfl (lv_at hl 0 rfl) ?_
        refine m_get (k := 36) (C := RX8) (T := TX8) (N := 18) (ref := "LiftFactorsModel") (v := .ref (adr 42)) hx hb hi hts inX8_u hown hw (by decide) rfl 8 (by decide) q_1 rfl rfl dX8_divides_68 ?_
        refine lv_iload_n hx hb dX8_divides_71 rfl (lv_at hl 1 rfl) ?_
        replace h := bnd h
        obtain ⟨v9, e9, h⟩ := h
        refine m_iald hx hb hi hw e9 dX8_divides_72 ?_
        refine lv_isub hx hb dX8_divides_73 ?_
        refine lv_istore (lv' := [(5, .int (v8 - v9)), (0, .ref (adr 36)), (1, .int a0), (2, .int a1), (3, .long a2)]) hx hb dX8_divides_74 hl (by decide) rfl (fun ls hl => ?_)
        refine lv_aload_n hx hb dX8_divides_76 rfl (lv_at hl 1 rfl) ?_
        refine m_get (k := 36) (C := RX8) (T := TX8) (N := 18) (ref := "LiftFactorsModel") (v := .ref (adr 41)) hx hb hi hts inX8_u hown hw (by decide) rfl 7 (by decide) q_0 rfl rfl dX8_divides_77 ?_
        refine lv_bipush (v := (24 : Int32)) hx hb dX8_divides_80 (by decide) ?_
        refine lv_iload_n hx hb dX8_divides_82 rfl (lv_at hl 2 rfl) ?_
        refine lv_imul hx hb dX8_divides_83 ?_
        refine lv_aload_n hx hb dX8_divides_84 rfl (lv_at hl 1 rfl) ?_
        refine m_get (k := 36) (C := RX8) (T := TX8) (N := 18) (ref := "LiftFactorsModel") (v := .ref (adr 42)) hx hb hi hts inX8_u hown hw (by decide) rfl 8 (by decide) q_1 rfl rfl dX8_divides_85 ?_
        refine lv_iload_n hx hb dX8_divides_88 rfl (lv_at hl 2 rfl) ?_
        replace h := bnd h
        obtain ⟨v10, e10, h⟩ := h
        refine m_iald hx hb hi hw e10 dX8_divides_89 ?_
        refine lv_iadd hx hb dX8_divides_90 ?_
        replace h := bnd h
        obtain ⟨v11, e11, h⟩ := h
        refine m_lald hx hb hi hw e11 dX8_divides_91 ?_
        refine lv_lstore (lv' := [(6, .long v11), (5, .int (v8 - v9)), (0, .ref (adr 36)), (1, .int a0), (2, .int a1), (3, .long a2)]) hx hb dX8_divides_92 hl (by decide) rfl (fun ls hl => ?_)
        refine lv_iload hx hb dX8_divides_94 (lv_at hl 1 rfl) ?_
        refine lv_istore (lv' := [(8, .int (v8 - v9)), (6, .long v11), (5, .int (v8 - v9)), (0, .ref (adr 36)), (1, .int a0), (2, .int a1), (3, .long a2)]) hx hb dX8_divides_96 hl (by decide) rfl (fun ls hl => ?_)
        replace h := bnd h
        obtain ⟨o39, j30, h⟩ := h
        refine lp_W (Wst := fun (st : Mem × Int32) => ∀ (ls : Array Slot) (H : Heap) (locs : List Loc), lv_has ls 14 [(0, .ref (adr 36)), (1, .int a0), (2, .int a1), (3, .long a2), (5, .int (v8 - v9)), (6, .long v11), (8, .int st.2)] → wH G A s.heap s (LL adr) (wf G adr st.1) H locs → W p l e { frames := 1, cells := 0, slots := 0, locals := 23 } s m args below meth c H locs 0 0 Q (F0 m 98 ls [])) (fin := fun (r : (Int32 × Mem) ⊕ (Mem)) => match r with
      | .inl o => ∀ (pc : Nat) (ls : Array Slot) (H : Heap) (locs : List Loc), decode cX8_divides pc = .ok (.ireturn, 1) → narrow .boolean (.int o.1) = .int o.1 → wH G A s.heap s (LL adr) (wf G adr o.2) H locs → W p l e { frames := 1, cells := 0, slots := 0, locals := 23 } s m args below meth c H locs 0 0 Q (F0 m pc ls [.int o.1])
      | .inr q => ∀ (ls : Array Slot) (H : Heap) (locs : List Loc), lv_has ls 14 [(0, .ref (adr 36)), (2, .int a1), (5, .int (v8 - v9))] → wH G A s.heap s (LL adr) (wf G adr q) H locs → W p l e { frames := 1, cells := 0, slots := 0, locals := 23 } s m args below meth c H locs 0 0 Q (F0 m 223 ls [])) ?_ n _ _ j30 ?_ _ _ _ (lv_sub hl [3, 4, 5, 6, 2, 1, 0] rfl) hw
        · clear h j30 hw hl
          intro ⟨M12, v13⟩ x h k1 k2 ls H locs hl hw
          (try dsimp only at k2 hl hw ⊢)
          unfold l_X8_divides_98 at h
          (try dsimp only at h)
          refine lv_iload hx hb dX8_divides_98 (lv_at hl 6 rfl) ?_
          refine lv_if_lt (tgt := 223) hx hb dX8_divides_100 (by decide) (fun hc => ?_) (fun hc => ?_)
          · replace h := ite_t hc h
            cases h
            exact k1 _ rfl _ _ _ (lv_sub hl [0, 2, 4] rfl) hw
          · replace h := ite_f hc h
            refine lv_aload_n hx hb dX8_divides_103 rfl (lv_at hl 0 rfl) ?_
            refine m_get (k := 36) (C := RX8) (T := TX8) (N := 18) (ref := "LiftFactorsModel") (v := .ref (adr 41)) hx hb hi hts inX8_u hown hw (by decide) rfl 7 (by decide) q_0 rfl rfl dX8_divides_104 ?_
            refine lv_bipush (v := (96 : Int32)) hx hb dX8_divides_107 (by decide) ?_
            refine lv_iload hx hb dX8_divides_109 (lv_at hl 6 rfl) ?_
            refine lv_iadd hx hb dX8_divides_111 ?_
            refine lv_aload_n hx hb dX8_divides_112 rfl (lv_at hl 0 rfl) ?_
            refine m_get (k := 36) (C := RX8) (T := TX8) (N := 18) (ref := "LiftFactorsModel") (v := .ref (adr 42)) hx hb hi hts inX8_u hown hw (by decide) rfl 8 (by decide) q_1 rfl rfl dX8_divides_113 ?_
            refine lv_iload_n hx hb dX8_divides_116 rfl (lv_at hl 1 rfl) ?_
            replace h := bnd h
            obtain ⟨v15, e15, h⟩ := h
            refine m_iald hx hb hi hw e15 dX8_divides_117 ?_
            refine lv_iadd hx hb dX8_divides_118 ?_
            replace h := bnd h
            obtain ⟨v16, e16, h⟩ := h
            refine m_lald hx hb hi hw e16 dX8_divides_119 ?_
            refine lv_lstore (lv' := [(9, .long v16), (0, .ref (adr 36)), (1, .int a0), (2, .int a1), (3, .long a2), (5, .int c14), (6, .long v11), (8, .int v13)]) hx hb dX8_divides_120 hl (by decide) rfl (fun ls hl => ?_)
            refine lv_lload hx hb dX8_divides_122 (lv_at hl 0 rfl) ?_
            refine lv_lload hx hb dX8_divides_124 (lv_at hl 6 rfl) ?_
            replace h := bnd h
            obtain ⟨v17, e17, h⟩ := h
            obtain ⟨ne17, rfl⟩ := rmJ_ok e17
            refine lv_lrem hx hb dX8_divides_126 ne17 ?_
            obtain ⟨v17, e17⟩ : ∃ z9, z9 = v16 - v16 / v11 * v11 := ⟨_, rfl⟩
            rw [← e17] at h ⊢
            refine lv_lconst (v := (0 : Int64)) hx hb dX8_divides_127 (by decide) ?_
            refine m_lcmp_ne (tgt := 145) hx hb dX8_divides_128 dX8_divides_129 (by decide) (fun hc => ?_) (fun hc => ?_)
            · replace h := ite_f hc h
              refine lv_iconst (v := (0 : Int32)) hx hb dX8_divides_145 (by decide) ?_
              cases h
              exact k1 _ rfl _ _ _ _ dX8_divides_146 (by decide) hw
            · replace h := ite_t hc h
              refine lv_lload hx hb dX8_divides_132 (lv_at hl 0 rfl) ?_
              refine lv_lload hx hb dX8_divides_134 (lv_at hl 6 rfl) ?_
              replace h := bnd h
              obtain ⟨v18, e18, h⟩ := h
              obtain ⟨ne18, rfl⟩ := dvJ_ok e18
              refine lv_ldiv hx hb dX8_divides_136 ne18 ?_
              obtain ⟨v18, e18⟩ : ∃ z9, z9 = v16 / v11 := ⟨_, rfl⟩
              rw [← e18] at h ⊢
              replace h := bnd h
              obtain ⟨v19, e19, h⟩ := h
              refine m_callSl (As := [.long v18]) (rest := []) cx.fix hw (cc_X8_abs (l := l) (G := G) (sz := H.size) (M := M12) hi e19) (w_cS 1 hts q_2 q_3 q_4 q_5 rfl rfl (by decide) (by decide)) hl.1 rfl (lv_room (Nat.le_of_ble_eq_true rfl)) dX8_divides_137 (fun H locs hw => ?_)
              refine lv_lload_n hx hb dX8_divides_140 rfl (lv_at hl 4 rfl) ?_
              refine m_lcmp_le (tgt := 147) hx hb dX8_divides_141 dX8_divides_142 (by decide) (fun hc => ?_) (fun hc => ?_)
              · replace h := ite_t hc h
                refine lv_lload hx hb dX8_divides_147 (lv_at hl 0 rfl) ?_
                refine lv_lload hx hb dX8_divides_149 (lv_at hl 6 rfl) ?_
                replace h := bnd h
                obtain ⟨v20, e20, h⟩ := h
                obtain ⟨ne20, rfl⟩ := dvJ_ok e20
                refine lv_ldiv hx hb dX8_divides_151 ne20 ?_
                obtain ⟨v20, e20⟩ : ∃ z9, z9 = v16 / v11 := ⟨_, rfl⟩
                rw [← e20] at h ⊢
                refine lv_lstore (lv' := [(11, .long v20), (9, .long v16), (0, .ref (adr 36)), (1, .int a0), (2, .int a1), (3, .long a2), (5, .int c14), (6, .long v11), (8, .int v13)]) hx hb dX8_divides_152 hl (by decide) rfl (fun ls hl => ?_)
                refine lv_aload_n hx hb dX8_divides_154 rfl (lv_at hl 2 rfl) ?_
                refine m_get (k := 36) (C := RX8) (T := TX8) (N := 18) (ref := "LiftFactorsModel") (v := .ref (adr 41)) hx hb hi hts inX8_u hown hw (by decide) rfl 7 (by decide) q_0 rfl rfl dX8_divides_155 ?_
                refine lv_bipush (v := (72 : Int32)) hx hb dX8_divides_158 (by decide) ?_
                refine lv_iload hx hb dX8_divides_160 (lv_at hl 8 rfl) ?_
                refine lv_iadd hx hb dX8_divides_162 ?_
                refine lv_lload hx hb dX8_divides_163 (lv_at hl 0 rfl) ?_
                replace h := bnd h
                obtain ⟨v21, e21, h⟩ := h
                refine m_last hx hb hi hw e21 dX8_divides_165 (fun H locs hw => ?_)
                refine lv_iconst (v := (0 : Int32)) hx hb dX8_divides_166 (by decide) ?_
                refine lv_istore (lv' := [(13, .int (0 : Int32)), (11, .long v20), (9, .long v16), (0, .ref (adr 36)), (1, .int a0), (2, .int a1), (3, .long a2), (5, .int c14), (6, .long v11), (8, .int v13)]) hx hb dX8_divides_167 hl (by decide) rfl (fun ls hl => ?_)
                replace h := bnd h
                obtain ⟨M29, j28, h⟩ := h
                refine lp_W (Wst := fun (st : Mem × Int32) => ∀ (ls : Array Slot) (H : Heap) (locs : List Loc), lv_has ls 14 [(0, .ref (adr 36)), (1, .int a0), (2, .int a1), (3, .long a2), (5, .int c14), (6, .long v11), (8, .int v13), (11, .long v20), (13, .int st.2)] → wH G A s.heap s (LL adr) (wf G adr st.1) H locs → W p l e { frames := 1, cells := 0, slots := 0, locals := 23 } s m args below meth c H locs 0 0 Q (F0 m 169 ls [])) (fin := fun (r : Mem) => ∀ (ls : Array Slot) (H : Heap) (locs : List Loc), lv_has ls 14 [(0, .ref (adr 36)), (1, .int a0), (2, .int a1), (3, .long a2), (5, .int c14), (6, .long v11), (8, .int v13)] → wH G A s.heap s (LL adr) (wf G adr r) H locs → W p l e { frames := 1, cells := 0, slots := 0, locals := 23 } s m args below meth c H locs 0 0 Q (F0 m 217 ls [])) ?_ n _ _ j28 ?_ _ _ _ (lv_sub hl [3, 4, 5, 6, 7, 8, 9, 1, 0] rfl) hw
                · clear h j28 hw hl
                  intro ⟨M22, v23⟩ x h k1 k2 ls H locs hl hw
                  (try dsimp only at k1 k2 hl hw ⊢)
                  unfold l_X8_divides_169 at h
                  (try dsimp only at h)
                  refine lv_iload hx hb dX8_divides_169 (lv_at hl 8 rfl) ?_
                  refine lv_aload_n hx hb dX8_divides_171 rfl (lv_at hl 0 rfl) ?_
                  refine m_get (k := 36) (C := RX8) (T := TX8) (N := 18) (ref := "LiftFactorsModel") (v := .ref (adr 42)) hx hb hi hts inX8_u hown hw (by decide) rfl 8 (by decide) q_1 rfl rfl dX8_divides_172 ?_
                  refine lv_iload_n hx hb dX8_divides_175 rfl (lv_at hl 1 rfl) ?_
                  replace h := bnd h
                  obtain ⟨v24, e24, h⟩ := h
                  refine m_iald hx hb hi hw e24 dX8_divides_176 ?_
                  refine lv_icmp_gt (tgt := 217) hx hb dX8_divides_177 (by decide) (fun hc => ?_) (fun hc => ?_)
                  · replace h := ite_t hc h
                    cases h
                    exact k1 _ rfl _ _ _ (lv_sub hl [0, 1, 2, 3, 4, 5, 6] rfl) hw
                  · replace h := ite_f hc h
                    refine lv_aload_n hx hb dX8_divides_180 rfl (lv_at hl 0 rfl) ?_
                    refine m_get (k := 36) (C := RX8) (T := TX8) (N := 18) (ref := "LiftFactorsModel") (v := .ref (adr 41)) hx hb hi hts inX8_u hown hw (by decide) rfl 7 (by decide) q_0 rfl rfl dX8_divides_181 ?_
                    refine lv_bipush (v := (96 : Int32)) hx hb dX8_divides_184 (by decide) ?_
                    refine lv_iload hx hb dX8_divides_186 (lv_at hl 6 rfl) ?_
                    refine lv_iadd hx hb dX8_divides_188 ?_
                    refine lv_iload hx hb dX8_divides_189 (lv_at hl 8 rfl) ?_
                    refine lv_iadd hx hb dX8_divides_191 ?_
                    refine lv_dup2_11 hx hb dX8_divides_192 rfl rfl ?_
                    replace h := bnd h
                    obtain ⟨v25, e25, h⟩ := h
                    refine m_lald hx hb hi hw e25 dX8_divides_193 ?_
                    refine lv_lload hx hb dX8_divides_194 (lv_at hl 7 rfl) ?_
                    refine lv_aload_n hx hb dX8_divides_196 rfl (lv_at hl 0 rfl) ?_
                    refine m_get (k := 36) (C := RX8) (T := TX8) (N := 18) (ref := "LiftFactorsModel") (v := .ref (adr 41)) hx hb hi hts inX8_u hown hw (by decide) rfl 7 (by decide) q_0 rfl rfl dX8_divides_197 ?_
                    refine lv_bipush (v := (24 : Int32)) hx hb dX8_divides_200 (by decide) ?_
                    refine lv_iload_n hx hb dX8_divides_202 rfl (lv_at hl 1 rfl) ?_
                    refine lv_imul hx hb dX8_divides_203 ?_
                    refine lv_iload hx hb dX8_divides_204 (lv_at hl 8 rfl) ?_
                    refine lv_iadd hx hb dX8_divides_206 ?_
                    replace h := bnd h
                    obtain ⟨v26, e26, h⟩ := h
                    refine m_lald hx hb hi hw e26 dX8_divides_207 ?_
                    refine lv_lmul hx hb dX8_divides_208 ?_
                    refine lv_lsub hx hb dX8_divides_209 ?_
                    replace h := bnd h
                    obtain ⟨v27, e27, h⟩ := h
                    refine m_last hx hb hi hw e27 dX8_divides_210 (fun H locs hw => ?_)
                    refine lv_iinc (v := v23 + 1) (lv' := [(13, .int (v23 + 1)), (0, .ref (adr 36)), (1, .int a0), (2, .int a1), (3, .long a2), (5, .int c14), (6, .long v11), (8, .int v13), (11, .long v20)]) hx hb dX8_divides_211 hl (k := 8) rfl (inc_p _ (by decide)) (by decide) rfl (fun ls hl => ?_)
                    refine lv_goto (tgt := 169) hx hb dX8_divides_214 (by decide) ?_
                    cases h
                    exact k2 _ rfl _ _ _ (lv_sub hl [1, 2, 3, 4, 5, 6, 7, 8, 0] rfl) hw
                · clear hw hl
                  intro ls H locs hl hw
                  (try dsimp only at hl hw ⊢)
                  refine lv_iinc (v := v13 + (-1)) (lv' := [(8, .int (v13 + (-1))), (0, .ref (adr 36)), (1, .int a0), (2, .int a1), (3, .long a2), (5, .int c14), (6, .long v11)]) hx hb dX8_divides_217 hl (k := 6) rfl (inc_p _ (by decide)) (by decide) rfl (fun ls hl => ?_)
                  refine lv_goto (tgt := 98) hx hb dX8_divides_220 (by decide) ?_
                  cases h
                  exact k2 _ rfl _ _ _ (lv_sub hl [1, 2, 3, 4, 5, 6, 0] rfl) hw
              · replace h := ite_f hc h
                refine lv_iconst (v := (0 : Int32)) hx hb dX8_divides_145 (by decide) ?_
                cases h
                exact k1 _ rfl _ _ _ _ dX8_divides_146 (by decide) hw
        · clear hw hl j30
          rcases o39 with o9 | M31
          · cases h
            exact kr
          · intro ls H locs hl hw
            (try dsimp only at h hl hw ⊢)
            refine lv_iconst (v := (0 : Int32)) hx hb dX8_divides_223 (by decide) ?_
            refine lv_istore (lv' := [(8, .int (0 : Int32)), (0, .ref (adr 36)), (2, .int a1), (5, .int (v8 - v9))]) hx hb dX8_divides_224 hl (by decide) rfl (fun ls hl => ?_)
            replace h := bnd h
            obtain ⟨o38, j36, h⟩ := h
            refine lp_W (Wst := fun (st : Int32) => ∀ (ls : Array Slot) (H : Heap) (locs : List Loc), lv_has ls 14 [(0, .ref (adr 36)), (2, .int a1), (5, .int (v8 - v9)), (8, .int st)] → wH G A s.heap s (LL adr) (wf G adr M31) H locs → W p l e { frames := 1, cells := 0, slots := 0, locals := 23 } s m args below meth c H locs 0 0 Q (F0 m 226 ls [])) (fin := fun (r : (Int32 × Mem) ⊕ (Unit)) => match r with
      | .inl o => ∀ (pc : Nat) (ls : Array Slot) (H : Heap) (locs : List Loc), decode cX8_divides pc = .ok (.ireturn, 1) → narrow .boolean (.int o.1) = .int o.1 → wH G A s.heap s (LL adr) (wf G adr o.2) H locs → W p l e { frames := 1, cells := 0, slots := 0, locals := 23 } s m args below meth c H locs 0 0 Q (F0 m pc ls [.int o.1])
      | .inr q => ∀ (ls : Array Slot) (H : Heap) (locs : List Loc), lv_has ls 14 [(0, .ref (adr 36)), (5, .int (v8 - v9))] → wH G A s.heap s (LL adr) (wf G adr M31) H locs → W p l e { frames := 1, cells := 0, slots := 0, locals := 23 } s m args below meth c H locs 0 0 Q (F0 m 260 ls [])) ?_ n _ _ j36 ?_ _ _ _ (lv_sub hl [1, 2, 3, 0] rfl) hw
            · clear h j36 hw hl
              intro v32 x h k1 k2 ls H locs hl hw
              (try dsimp only at k2 hl hw ⊢)
              unfold l_X8_divides_226 at h
              (try dsimp only at h)
              refine lv_iload hx hb dX8_divides_226 (lv_at hl 3 rfl) ?_
              refine lv_aload_n hx hb dX8_divides_228 rfl (lv_at hl 0 rfl) ?_
              refine m_get (k := 36) (C := RX8) (T := TX8) (N := 18) (ref := "LiftFactorsModel") (v := .ref (adr 42)) hx hb hi hts inX8_u hown hw (by decide) rfl 8 (by decide) q_1 rfl rfl dX8_divides_229 ?_
              refine lv_iload_n hx hb dX8_divides_232 rfl (lv_at hl 1 rfl) ?_
              replace h := bnd h
              obtain ⟨v34, e34, h⟩ := h
              refine m_iald hx hb hi hw e34 dX8_divides_233 ?_
              refine lv_icmp_gt (tgt := 260) hx hb dX8_divides_234 (by decide) (fun hc => ?_) (fun hc => ?_)
              · replace h := ite_t hc h
                cases h
                exact k1 _ rfl _ _ _ (lv_sub hl [0, 2] rfl) hw
              · replace h := ite_f hc h
                refine lv_aload_n hx hb dX8_divides_237 rfl (lv_at hl 0 rfl) ?_
                refine m_get (k := 36) (C := RX8) (T := TX8) (N := 18) (ref := "LiftFactorsModel") (v := .ref (adr 41)) hx hb hi hts inX8_u hown hw (by decide) rfl 7 (by decide) q_0 rfl rfl dX8_divides_238 ?_
                refine lv_bipush (v := (96 : Int32)) hx hb dX8_divides_241 (by decide) ?_
                refine lv_iload hx hb dX8_divides_243 (lv_at hl 3 rfl) ?_
                refine lv_iadd hx hb dX8_divides_245 ?_
                replace h := bnd h
                obtain ⟨v35, e35, h⟩ := h
                refine m_lald hx hb hi hw e35 dX8_divides_246 ?_
                refine lv_lconst (v := (0 : Int64)) hx hb dX8_divides_247 (by decide) ?_
                refine m_lcmp_eq (tgt := 254) hx hb dX8_divides_248 dX8_divides_249 (by decide) (fun hc => ?_) (fun hc => ?_)
                · replace h := ite_t hc h
                  refine lv_iinc (v := v32 + 1) (lv' := [(8, .int (v32 + 1)), (0, .ref (adr 36)), (2, .int a1), (5, .int c33)]) hx hb dX8_divides_254 hl (k := 3) rfl (inc_p _ (by decide)) (by decide) rfl (fun ls hl => ?_)
                  refine lv_goto (tgt := 226) hx hb dX8_divides_257 (by decide) ?_
                  cases h
                  exact k2 _ rfl _ _ _ (lv_sub hl [1, 2, 3, 0] rfl) hw
                · replace h := ite_f hc h
                  refine lv_iconst (v := (0 : Int32)) hx hb dX8_divides_252 (by decide) ?_
                  cases h
                  exact k1 _ rfl _ _ _ _ dX8_divides_253 (by decide) hw
            · clear hw hl j36
              rcases o38 with o9 | _
              · cases h
                exact kr
              · intro ls H locs hl hw
                (try dsimp only at h hl hw ⊢)
                refine lv_aload_n hx hb dX8_divides_260 rfl (lv_at hl 0 rfl) ?_
                refine lv_iconst (v := (3 : Int32)) hx hb dX8_divides_261 (by decide) ?_
                refine lv_iload hx hb dX8_divides_262 (lv_at hl 1 rfl) ?_
                replace h := bnd h
                obtain ⟨v37, e37, h⟩ := h
                refine m_callVv (k := 36) (As := [.int (3 : Int32), .int (v8 - v9)]) (rest := []) cx.fix hi hw (cc_X8_trim (l := l) (G := G) (sz := H.size) hi e37) (by decide) rfl rfl (w_cV 2 hts q_11 q_12 q_13 q_14 q_15 rfl rfl (by decide) (by decide)) hl.1 rfl (lv_room (Nat.le_of_ble_eq_true rfl)) dX8_divides_264 (fun H locs hw => ?_)
                refine lv_iconst (v := (1 : Int32)) hx hb dX8_divides_267 (by decide) ?_
                cases h
                exact kr _ _ _ _ dX8_divides_268 (by decide) hw
  · replace h := ite_f hc h
    refine lv_iconst (v := (0 : Int32)) hx hb dX8_divides_9 (by decide) ?_
    cases h
    exact kr _ _ _ _ dX8_divides_10 (by decide) hw
theorem cc_X8_divides {l : Launch} {G : gG} {adr : Nat → Nat} {sz : Nat} (hi : adi adr) {n : Nat} {a0 : Int32} {a1 : Int32} {a2 : Int64} {M M' : Mem} {r : Int32} (h : f_X8_divides n a0 a1 a2 M = some (r, M')) : mI l yX8_divides cX8_divides 14 (some .boolean) { frames := 1, cells := 0, slots := 0, locals := 23 } G adr [.ref (adr 36), .int a0, .int a1, .long a2] M sz r M' := by
  refine wEnter (by decide) (Nat.le_of_ble_eq_true rfl) ?_
  intro p e s m below meth c ls cx hinit hl hsz hw
  exact b_X8_divides cx hi h (fun pc ls H locs hd hz hw => w_zret (post := fun (r9 : Int32) (u : Mem) => r9 = r ∧ u = M') (lf := fun u => (LL adr, wf G adr u)) cx.1 cx.2.1 cx.2.2.1 cx.2.2.2.2.2.2 hz M' hw ⟨rfl, rfl⟩ hd) hl hw
theorem q_29 : Cond.fieldLink RX8 75 "LiftFactorsModel" "modulus" "J" ∈ uU := uU_in (by decide +kernel) (by decide +kernel)
theorem q_30 : Cond.constantLong RX8 79 (1048575) ∈ uU := uU_in (by decide +kernel) (by decide +kernel)
def f_X8_product (a0 : Int64) (a1 : Int64) (M : Mem) : Option Int64 :=
  Option.bind (rmJ (a0 * (a1 >>> (20 : Int64))) (M.1 36 9)) fun v1 =>
  Option.bind (rmJ ((v1 <<< (20 : Int64)) + (a0 * (a1 &&& (1048575 : Int64)))) (M.1 36 9)) fun v2 =>
  some v2
set_option maxRecDepth 100000 in
set_option maxHeartbeats 8000000 in
theorem b_X8_product {p : Program} {l : Launch} {e : Env} {s : State} {m : MethodId} {args : Array Value} {below : List Frame} {meth : Method} {c : Code} {Q : State → Prop} {G : gG} {A : Nat → Prop} {adr : Nat → Nat} (cx : cX p s m args meth c cX8_product (some .long) 7 yX8_product.cls) (hi : adi adr) {a0 : Int64} {a1 : Int64} {M : Mem} {r : Int64} 
    (h : f_X8_product a0 a1 M = some r)
    (kr : ∀ (pc : Nat) (ls : Array Slot) (H : Heap) (locs : List Loc), decode cX8_product pc = .ok (.lreturn, 1) → wH G A s.heap s (LL adr) (wf G adr M) H locs → W p l e { frames := 0, cells := 0, slots := 0, locals := 0 } s m args below meth c H locs 0 0 Q (F0 m pc ls [.long r]))
    {ls : Array Slot} {H : Heap} {locs : List Loc} (hl : lv_has ls 7 [(0, .ref (adr 36)), (1, .long a0), (3, .long a1)]) (hw : wH G A s.heap s (LL adr) (wf G adr M) H locs) : W p l e { frames := 0, cells := 0, slots := 0, locals := 0 } s m args below meth c H locs 0 0 Q (F0 m 0 ls []) := by
  obtain ⟨hx, hb, -, -, hown, hts, -⟩ := id cx
  have hown : s.vm.findClass RX8 = some m.cls := hown
  unfold f_X8_product at h
  refine lv_lload_n hx hb dX8_product_0 rfl (lv_at hl 1 rfl) ?_
  refine lv_lload_n hx hb dX8_product_1 rfl (lv_at hl 2 rfl) ?_
  refine lv_bipush (v := (20 : Int32)) hx hb dX8_product_2 (by decide) ?_
  refine lv_lshr (v := a1 >>> (20 : Int64)) hx hb dX8_product_4 (shr_p _ (by decide)) ?_
  refine lv_lmul hx hb dX8_product_5 ?_
  refine lv_aload_n hx hb dX8_product_6 rfl (lv_at hl 0 rfl) ?_
  refine m_get (k := 36) (C := RX8) (T := TX8) (N := 18) (ref := "LiftFactorsModel") (v := .long (M.1 36 9)) hx hb hi hts inX8_u hown hw (by decide) rfl 9 (by decide) q_29 rfl rfl dX8_product_7 ?_
  replace h := bnd h
  obtain ⟨v1, e1, h⟩ := h
  obtain ⟨ne1, rfl⟩ := rmJ_ok e1
  refine lv_lrem hx hb dX8_product_10 ne1 ?_
  obtain ⟨v1, e1⟩ : ∃ z9, z9 = (a0 * (a1 >>> (20 : Int64))) - (a0 * (a1 >>> (20 : Int64))) / (M.1 36 9) * (M.1 36 9) := ⟨_, rfl⟩
  rw [← e1] at h ⊢
  refine lv_lstore (lv' := [(5, .long v1), (0, .ref (adr 36)), (1, .long a0), (3, .long a1)]) hx hb dX8_product_11 hl (by decide) rfl (fun ls hl => ?_)
  refine lv_lload hx hb dX8_product_13 (lv_at hl 0 rfl) ?_
  refine lv_bipush (v := (20 : Int32)) hx hb dX8_product_15 (by decide) ?_
  refine lv_lshl (v := v1 <<< (20 : Int64)) hx hb dX8_product_17 (shl_p _ (by decide)) ?_
  refine lv_lload_n hx hb dX8_product_18 rfl (lv_at hl 2 rfl) ?_
  refine lv_lload_n hx hb dX8_product_19 rfl (lv_at hl 3 rfl) ?_
  refine lv_ldc2 (v := (1048575 : Int64)) hx hb hown (hts _ q_30) dX8_product_20 ?_
  refine lv_land hx hb dX8_product_23 ?_
  refine lv_lmul hx hb dX8_product_24 ?_
  refine lv_ladd hx hb dX8_product_25 ?_
  refine lv_aload_n hx hb dX8_product_26 rfl (lv_at hl 1 rfl) ?_
  refine m_get (k := 36) (C := RX8) (T := TX8) (N := 18) (ref := "LiftFactorsModel") (v := .long (M.1 36 9)) hx hb hi hts inX8_u hown hw (by decide) rfl 9 (by decide) q_29 rfl rfl dX8_product_27 ?_
  replace h := bnd h
  obtain ⟨v2, e2, h⟩ := h
  obtain ⟨ne2, rfl⟩ := rmJ_ok e2
  refine lv_lrem hx hb dX8_product_30 ne2 ?_
  obtain ⟨v2, e2⟩ : ∃ z9, z9 = ((v1 <<< (20 : Int64)) + (a0 * (a1 &&& (1048575 : Int64)))) - ((v1 <<< (20 : Int64)) + (a0 * (a1 &&& (1048575 : Int64)))) / (M.1 36 9) * (M.1 36 9) := ⟨_, rfl⟩
  rw [← e2] at h ⊢
  cases h
  exact kr _ _ _ _ dX8_product_31 hw
theorem cc_X8_product {l : Launch} {G : gG} {adr : Nat → Nat} {sz : Nat} (hi : adi adr) {a0 : Int64} {a1 : Int64} {M : Mem} {r : Int64} (h : f_X8_product a0 a1 M = some r) : mL l yX8_product cX8_product 7 (some .long) { frames := 0, cells := 0, slots := 0, locals := 0 } G adr [.ref (adr 36), .long a0, .long a1] M sz r M := by
  refine wEnter (by decide) (Nat.le_of_ble_eq_true rfl) ?_
  intro p e s m below meth c ls cx hinit hl hsz hw
  exact b_X8_product cx hi h (fun pc ls H locs hd hw => w_lret (post := fun (r9 : Int64) (u : Mem) => r9 = r ∧ u = M) (lf := fun u => (LL adr, wf G adr u)) cx.1 cx.2.1 cx.2.2.1 cx.2.2.2.2.2.2 M hw ⟨rfl, rfl⟩ hd) hl hw
theorem q_31 : Cond.methodLink RX8 81 yX8_product ∈ uU := uU_in (by decide +kernel) (by decide +kernel)
theorem q_32 : Cond.instanceMethod yX8_product ∈ uU := uU_in (by decide +kernel) (by decide +kernel)
theorem q_33 : Cond.selects yX8_product.cls yX8_product yX8_product ∈ uU := uU_in (by decide +kernel) (by decide +kernel)
theorem q_34 : Cond.initialized yX8_product.cls ∈ uU := uU_in (by decide +kernel) (by decide +kernel)
theorem q_35 : Cond.code yX8_product cX8_product 7 (some .long) ∈ uU := uU_in (by decide +kernel) (by decide +kernel)
def l_X8_power_14 (M : Mem) : Int64 × Int64 × Int64 → Option ((Int64) ⊕ (Int64 × Int64 × Int64)) := fun (v2, v3, v4) =>
  if v4 ≤ (0 : Int64) then
    some (.inl v2)
  else
    Option.bind (
      if (v4 &&& (1 : Int64)) = (1 : Int64) then
        Option.bind (f_X8_product v2 v3 M) fun v5 =>
        some v5
      else
        some v2) fun v6 =>
    Option.bind (f_X8_product v3 v3 M) fun v7 =>
    some (.inr (v6, v7, v4 >>> (1 : Int64)))
def f_X8_power (n : Nat) (a0 : Int64) (a1 : Int64) (M : Mem) : Option Int64 :=
  Option.bind (rmJ (1 : Int64) (M.1 36 9)) fun v1 =>
  Option.bind (lpF (l_X8_power_14 M) n (v1, a0, a1)) fun v10 =>
  some v10
set_option maxRecDepth 100000 in
set_option maxHeartbeats 8000000 in
theorem b_X8_power {p : Program} {l : Launch} {e : Env} {s : State} {m : MethodId} {args : Array Value} {below : List Frame} {meth : Method} {c : Code} {Q : State → Prop} {G : gG} {A : Nat → Prop} {adr : Nat → Nat} (cx : cX p s m args meth c cX8_power (some .long) 11 yX8_power.cls) (hi : adi adr) {n : Nat} {a0 : Int64} {a1 : Int64} {M : Mem} {r : Int64} 
    (h : f_X8_power n a0 a1 M = some r)
    (kr : ∀ (pc : Nat) (ls : Array Slot) (H : Heap) (locs : List Loc), decode cX8_power pc = .ok (.lreturn, 1) → wH G A s.heap s (LL adr) (wf G adr M) H locs → W p l e { frames := 1, cells := 0, slots := 0, locals := 26 } s m args below meth c H locs 0 0 Q (F0 m pc ls [.long r]))
    {ls : Array Slot} {H : Heap} {locs : List Loc} (hl : lv_has ls 11 [(0, .ref (adr 36)), (1, .long a0), (3, .long a1)]) (hw : wH G A s.heap s (LL adr) (wf G adr M) H locs) : W p l e { frames := 1, cells := 0, slots := 0, locals := 26 } s m args below meth c H locs 0 0 Q (F0 m 0 ls []) := by
  obtain ⟨hx, hb, -, -, hown, hts, -⟩ := id cx
  have hown : s.vm.findClass RX8 = some m.cls := hown
  unfold f_X8_power at h
  refine lv_lconst (v := (1 : Int64)) hx hb dX8_power_0 (by decide) ?_
  refine lv_aload_n hx hb dX8_power_1 rfl (lv_at hl 0 rfl) ?_
  refine m_get (k := 36) (C := RX8) (T := TX8) (N := 18) (ref := "LiftFactorsModel") (v := .long (M.1 36 9)) hx hb hi hts inX8_u hown hw (by decide) rfl 9 (by decide) q_29 rfl rfl dX8_power_2 ?_
  replace h := bnd h
  obtain ⟨v1, e1, h⟩ := h
  obtain ⟨ne1, rfl⟩ := rmJ_ok e1
  refine lv_lrem hx hb dX8_power_5 ne1 ?_
  obtain ⟨v1, e1⟩ : ∃ z9, z9 = (1 : Int64) - (1 : Int64) / (M.1 36 9) * (M.1 36 9) := ⟨_, rfl⟩
  rw [← e1] at h ⊢
  refine lv_lstore (lv' := [(5, .long v1), (0, .ref (adr 36)), (1, .long a0), (3, .long a1)]) hx hb dX8_power_6 hl (by decide) rfl (fun ls hl => ?_)
  refine lv_lload_n hx hb dX8_power_8 rfl (lv_at hl 2 rfl) ?_
  refine lv_lstore (lv' := [(7, .long a0), (5, .long v1), (0, .ref (adr 36)), (1, .long a0), (3, .long a1)]) hx hb dX8_power_9 hl (by decide) rfl (fun ls hl => ?_)
  refine lv_lload_n hx hb dX8_power_11 rfl (lv_at hl 4 rfl) ?_
  refine lv_lstore (lv' := [(9, .long a1), (7, .long a0), (5, .long v1), (0, .ref (adr 36)), (1, .long a0), (3, .long a1)]) hx hb dX8_power_12 hl (by decide) rfl (fun ls hl => ?_)
  replace h := bnd h
  obtain ⟨v10, j9, h⟩ := h
  refine lp_W (Wst := fun (st : Int64 × Int64 × Int64) => ∀ (ls : Array Slot) (H : Heap) (locs : List Loc), lv_has ls 11 [(0, .ref (adr 36)), (5, .long st.1), (7, .long st.2.1), (9, .long st.2.2)] → wH G A s.heap s (LL adr) (wf G adr M) H locs → W p l e { frames := 1, cells := 0, slots := 0, locals := 26 } s m args below meth c H locs 0 0 Q (F0 m 14 ls [])) (fin := fun (r : Int64) => ∀ (ls : Array Slot) (H : Heap) (locs : List Loc), lv_has ls 11 [(5, .long r)] → wH G A s.heap s (LL adr) (wf G adr M) H locs → W p l e { frames := 1, cells := 0, slots := 0, locals := 26 } s m args below meth c H locs 0 0 Q (F0 m 59 ls [])) ?_ n _ _ j9 ?_ _ _ _ (lv_sub hl [3, 2, 1, 0] rfl) hw
  · clear h j9 hw hl
    intro ⟨v2, v3, v4⟩ x h k1 k2 ls H locs hl hw
    (try dsimp only at k1 k2 hl hw ⊢)
    unfold l_X8_power_14 at h
    (try dsimp only at h)
    refine lv_lload hx hb dX8_power_14 (lv_at hl 3 rfl) ?_
    refine lv_lconst (v := (0 : Int64)) hx hb dX8_power_16 (by decide) ?_
    refine m_lcmp_le (tgt := 59) hx hb dX8_power_17 dX8_power_18 (by decide) (fun hc => ?_) (fun hc => ?_)
    · replace h := ite_t hc h
      cases h
      exact k1 _ rfl _ _ _ (lv_sub hl [1] rfl) hw
    · replace h := ite_f hc h
      refine lv_lload hx hb dX8_power_21 (lv_at hl 3 rfl) ?_
      refine lv_lconst (v := (1 : Int64)) hx hb dX8_power_23 (by decide) ?_
      refine lv_land hx hb dX8_power_24 ?_
      refine lv_lconst (v := (1 : Int64)) hx hb dX8_power_25 (by decide) ?_
      replace h := bnd h
      obtain ⟨v6, j8, h⟩ := h
      have kj : ∀ (ls : Array Slot) (H : Heap) (locs : List Loc), lv_has ls 11 [(0, .ref (adr 36)), (5, .long v6), (7, .long v3), (9, .long v4)] → wH G A s.heap s (LL adr) (wf G adr M) H locs → W p l e { frames := 1, cells := 0, slots := 0, locals := 26 } s m args below meth c H locs 0 0 Q (F0 m 40 ls []) := by
        intro ls H locs hl hw
        refine lv_aload_n hx hb dX8_power_40 rfl (lv_at hl 0 rfl) ?_
        refine lv_lload hx hb dX8_power_41 (lv_at hl 2 rfl) ?_
        refine lv_lload hx hb dX8_power_43 (lv_at hl 2 rfl) ?_
        replace h := bnd h
        obtain ⟨v7, e7, h⟩ := h
        refine m_callVl (k := 36) (As := [.long v3, .long v3]) (rest := []) cx.fix hi hw (cc_X8_product (l := l) (G := G) (sz := H.size) hi e7) (by decide) rfl rfl (w_cV 2 hts q_31 q_32 q_33 q_34 q_35 rfl rfl (by decide) (by decide)) hl.1 rfl (lv_room (Nat.le_of_ble_eq_true rfl)) dX8_power_45 (fun H locs hw => ?_)
        refine lv_lstore (lv' := [(7, .long v7), (0, .ref (adr 36)), (5, .long v6), (9, .long v4)]) hx hb dX8_power_48 hl (by decide) rfl (fun ls hl => ?_)
        refine lv_lload hx hb dX8_power_50 (lv_at hl 3 rfl) ?_
        refine lv_iconst (v := (1 : Int32)) hx hb dX8_power_52 (by decide) ?_
        refine lv_lshr (v := v4 >>> (1 : Int64)) hx hb dX8_power_53 (shr_p _ (by decide)) ?_
        refine lv_lstore (lv' := [(9, .long (v4 >>> (1 : Int64))), (7, .long v7), (0, .ref (adr 36)), (5, .long v6)]) hx hb dX8_power_54 hl (by decide) rfl (fun ls hl => ?_)
        refine lv_goto (tgt := 14) hx hb dX8_power_56 (by decide) ?_
        cases h
        exact k2 _ rfl _ _ _ (lv_sub hl [2, 3, 1, 0] rfl) hw
      clear h
      replace h := j8
      clear j8
      refine m_lcmp_ne (tgt := 40) hx hb dX8_power_26 dX8_power_27 (by decide) (fun hc => ?_) (fun hc => ?_)
      · replace h := ite_f hc h
        cases h
        exact kj _ _ _ (lv_sub hl [0, 1, 2, 3] rfl) hw
      · replace h := ite_t hc h
        refine lv_aload_n hx hb dX8_power_30 rfl (lv_at hl 0 rfl) ?_
        refine lv_lload hx hb dX8_power_31 (lv_at hl 1 rfl) ?_
        refine lv_lload hx hb dX8_power_33 (lv_at hl 2 rfl) ?_
        replace h := bnd h
        obtain ⟨v5, e5, h⟩ := h
        refine m_callVl (k := 36) (As := [.long v2, .long v3]) (rest := []) cx.fix hi hw (cc_X8_product (l := l) (G := G) (sz := H.size) hi e5) (by decide) rfl rfl (w_cV 2 hts q_31 q_32 q_33 q_34 q_35 rfl rfl (by decide) (by decide)) hl.1 rfl (lv_room (Nat.le_of_ble_eq_true rfl)) dX8_power_35 (fun H locs hw => ?_)
        refine lv_lstore (lv' := [(5, .long v5), (0, .ref (adr 36)), (7, .long v3), (9, .long v4)]) hx hb dX8_power_38 hl (by decide) rfl (fun ls hl => ?_)
        cases h
        exact kj _ _ _ (lv_sub hl [1, 0, 2, 3] rfl) hw
  · clear hw hl
    intro ls H locs hl hw
    (try dsimp only at hl hw ⊢)
    refine lv_lload hx hb dX8_power_59 (lv_at hl 0 rfl) ?_
    cases h
    exact kr _ _ _ _ dX8_power_61 hw
theorem cc_X8_power {l : Launch} {G : gG} {adr : Nat → Nat} {sz : Nat} (hi : adi adr) {n : Nat} {a0 : Int64} {a1 : Int64} {M : Mem} {r : Int64} (h : f_X8_power n a0 a1 M = some r) : mL l yX8_power cX8_power 11 (some .long) { frames := 1, cells := 0, slots := 0, locals := 26 } G adr [.ref (adr 36), .long a0, .long a1] M sz r M := by
  refine wEnter (by decide) (Nat.le_of_ble_eq_true rfl) ?_
  intro p e s m below meth c ls cx hinit hl hsz hw
  exact b_X8_power cx hi h (fun pc ls H locs hd hw => w_lret (post := fun (r9 : Int64) (u : Mem) => r9 = r ∧ u = M) (lf := fun u => (LL adr, wf G adr u)) cx.1 cx.2.1 cx.2.2.1 cx.2.2.2.2.2.2 M hw ⟨rfl, rfl⟩ hd) hl hw
def l_X8_reduce_9 (a0 : Int32) (v1 : Int32) : Mem × Int32 → Option ((Mem) ⊕ (Mem × Int32)) := fun (M2, v3) =>
  if v1 < v3 then
    some (.inl M2)
  else
    Option.bind (ldJ M2 41 (((24 : Int32) * a0) + v3)) fun v4 =>
    Option.bind (rmJ v4 (M2.1 36 9)) fun v5 =>
    Option.bind (
      if (0 : Int64) ≤ v5 then
        some v5
      else
        some (v5 + (M2.1 36 9))) fun v6 =>
    Option.bind (stJ M2 41 (((24 : Int32) * a0) + v3) v6) fun v7 =>
    some (.inr (v7, v3 + 1))
def f_X8_reduce (n : Nat) (a0 : Int32) (M : Mem) : Option Mem :=
  Option.bind (ldI M 42 a0) fun v1 =>
  Option.bind (lpF (l_X8_reduce_9 a0 v1) n (M, (0 : Int32))) fun M10 =>
  Option.bind (f_X8_trim n a0 v1 M10) fun v11 =>
  some v11
set_option maxRecDepth 100000 in
set_option maxHeartbeats 8000000 in
theorem b_X8_reduce {p : Program} {l : Launch} {e : Env} {s : State} {m : MethodId} {args : Array Value} {below : List Frame} {meth : Method} {c : Code} {Q : State → Prop} {G : gG} {A : Nat → Prop} {adr : Nat → Nat} (cx : cX p s m args meth c cX8_reduce none 6 yX8_reduce.cls) (hi : adi adr) {n : Nat} {a0 : Int32} {M M' : Mem} 
    (h : f_X8_reduce n a0 M = some M')
    (kr : ∀ (pc : Nat) (ls : Array Slot) (H : Heap) (locs : List Loc), decode cX8_reduce pc = .ok (.return_, 1) → wH G A s.heap s (LL adr) (wf G adr M') H locs → W p l e { frames := 1, cells := 0, slots := 0, locals := 23 } s m args below meth c H locs 0 0 Q (F0 m pc ls []))
    {ls : Array Slot} {H : Heap} {locs : List Loc} (hl : lv_has ls 6 [(0, .ref (adr 36)), (1, .int a0)]) (hw : wH G A s.heap s (LL adr) (wf G adr M) H locs) : W p l e { frames := 1, cells := 0, slots := 0, locals := 23 } s m args below meth c H locs 0 0 Q (F0 m 0 ls []) := by
  obtain ⟨hx, hb, -, -, hown, hts, -⟩ := id cx
  have hown : s.vm.findClass RX8 = some m.cls := hown
  unfold f_X8_reduce at h
  refine lv_aload_n hx hb dX8_reduce_0 rfl (lv_at hl 0 rfl) ?_
  refine m_get (k := 36) (C := RX8) (T := TX8) (N := 18) (ref := "LiftFactorsModel") (v := .ref (adr 42)) hx hb hi hts inX8_u hown hw (by decide) rfl 8 (by decide) q_1 rfl rfl dX8_reduce_1 ?_
  refine lv_iload_n hx hb dX8_reduce_4 rfl (lv_at hl 1 rfl) ?_
  replace h := bnd h
  obtain ⟨v1, e1, h⟩ := h
  refine m_iald hx hb hi hw e1 dX8_reduce_5 ?_
  refine lv_istore_n (lv' := [(2, .int v1), (0, .ref (adr 36)), (1, .int a0)]) hx hb dX8_reduce_6 rfl hl (by decide) rfl (fun ls hl => ?_)
  refine lv_iconst (v := (0 : Int32)) hx hb dX8_reduce_7 (by decide) ?_
  refine lv_istore_n (lv' := [(3, .int (0 : Int32)), (2, .int v1), (0, .ref (adr 36)), (1, .int a0)]) hx hb dX8_reduce_8 rfl hl (by decide) rfl (fun ls hl => ?_)
  replace h := bnd h
  obtain ⟨M10, j9, h⟩ := h
  refine lp_W (Wst := fun (st : Mem × Int32) => ∀ (ls : Array Slot) (H : Heap) (locs : List Loc), lv_has ls 6 [(0, .ref (adr 36)), (1, .int a0), (2, .int v1), (3, .int st.2)] → wH G A s.heap s (LL adr) (wf G adr st.1) H locs → W p l e { frames := 1, cells := 0, slots := 0, locals := 23 } s m args below meth c H locs 0 0 Q (F0 m 9 ls [])) (fin := fun (r : Mem) => ∀ (ls : Array Slot) (H : Heap) (locs : List Loc), lv_has ls 6 [(0, .ref (adr 36)), (1, .int a0), (2, .int v1)] → wH G A s.heap s (LL adr) (wf G adr r) H locs → W p l e { frames := 1, cells := 0, slots := 0, locals := 23 } s m args below meth c H locs 0 0 Q (F0 m 68 ls [])) ?_ n _ _ j9 ?_ _ _ _ (lv_sub hl [2, 3, 1, 0] rfl) hw
  · clear h j9 hw hl
    intro ⟨M2, v3⟩ x h k1 k2 ls H locs hl hw
    (try dsimp only at k1 k2 hl hw ⊢)
    unfold l_X8_reduce_9 at h
    (try dsimp only at h)
    refine lv_iload_n hx hb dX8_reduce_9 rfl (lv_at hl 3 rfl) ?_
    refine lv_iload_n hx hb dX8_reduce_10 rfl (lv_at hl 2 rfl) ?_
    refine lv_icmp_gt (tgt := 68) hx hb dX8_reduce_11 (by decide) (fun hc => ?_) (fun hc => ?_)
    · replace h := ite_t hc h
      cases h
      exact k1 _ rfl _ _ _ (lv_sub hl [0, 1, 2] rfl) hw
    · replace h := ite_f hc h
      refine lv_aload_n hx hb dX8_reduce_14 rfl (lv_at hl 0 rfl) ?_
      refine m_get (k := 36) (C := RX8) (T := TX8) (N := 18) (ref := "LiftFactorsModel") (v := .ref (adr 41)) hx hb hi hts inX8_u hown hw (by decide) rfl 7 (by decide) q_0 rfl rfl dX8_reduce_15 ?_
      refine lv_bipush (v := (24 : Int32)) hx hb dX8_reduce_18 (by decide) ?_
      refine lv_iload_n hx hb dX8_reduce_20 rfl (lv_at hl 1 rfl) ?_
      refine lv_imul hx hb dX8_reduce_21 ?_
      refine lv_iload_n hx hb dX8_reduce_22 rfl (lv_at hl 3 rfl) ?_
      refine lv_iadd hx hb dX8_reduce_23 ?_
      replace h := bnd h
      obtain ⟨v4, e4, h⟩ := h
      refine m_lald hx hb hi hw e4 dX8_reduce_24 ?_
      refine lv_aload_n hx hb dX8_reduce_25 rfl (lv_at hl 0 rfl) ?_
      refine m_get (k := 36) (C := RX8) (T := TX8) (N := 18) (ref := "LiftFactorsModel") (v := .long (M2.1 36 9)) hx hb hi hts inX8_u hown hw (by decide) rfl 9 (by decide) q_29 rfl rfl dX8_reduce_26 ?_
      replace h := bnd h
      obtain ⟨v5, e5, h⟩ := h
      obtain ⟨ne5, rfl⟩ := rmJ_ok e5
      refine lv_lrem hx hb dX8_reduce_29 ne5 ?_
      obtain ⟨v5, e5⟩ : ∃ z9, z9 = v4 - v4 / (M2.1 36 9) * (M2.1 36 9) := ⟨_, rfl⟩
      rw [← e5] at h ⊢
      refine lv_lstore (lv' := [(4, .long v5), (0, .ref (adr 36)), (1, .int a0), (2, .int v1), (3, .int v3)]) hx hb dX8_reduce_30 hl (by decide) rfl (fun ls hl => ?_)
      refine lv_aload_n hx hb dX8_reduce_32 rfl (lv_at hl 1 rfl) ?_
      refine m_get (k := 36) (C := RX8) (T := TX8) (N := 18) (ref := "LiftFactorsModel") (v := .ref (adr 41)) hx hb hi hts inX8_u hown hw (by decide) rfl 7 (by decide) q_0 rfl rfl dX8_reduce_33 ?_
      refine lv_bipush (v := (24 : Int32)) hx hb dX8_reduce_36 (by decide) ?_
      refine lv_iload_n hx hb dX8_reduce_38 rfl (lv_at hl 2 rfl) ?_
      refine lv_imul hx hb dX8_reduce_39 ?_
      refine lv_iload_n hx hb dX8_reduce_40 rfl (lv_at hl 4 rfl) ?_
      refine lv_iadd hx hb dX8_reduce_41 ?_
      refine lv_lload hx hb dX8_reduce_42 (lv_at hl 0 rfl) ?_
      refine lv_lconst (v := (0 : Int64)) hx hb dX8_reduce_44 (by decide) ?_
      replace h := bnd h
      obtain ⟨v6, j8, h⟩ := h
      have kj : ∀ (ls : Array Slot) (H : Heap) (locs : List Loc), lv_has ls 6 [(0, .ref (adr 36)), (1, .int a0), (2, .int v1), (3, .int v3)] → wH G A s.heap s (LL adr) (wf G adr M2) H locs → W p l e { frames := 1, cells := 0, slots := 0, locals := 23 } s m args below meth c H locs 0 0 Q (F0 m 61 ls [.long v6, .int (((24 : Int32) * a0) + v3), .ref (adr 41)]) := by
        intro ls H locs hl hw
        replace h := bnd h
        obtain ⟨v7, e7, h⟩ := h
        refine m_last hx hb hi hw e7 dX8_reduce_61 (fun H locs hw => ?_)
        refine lv_iinc (v := v3 + 1) (lv' := [(3, .int (v3 + 1)), (0, .ref (adr 36)), (1, .int a0), (2, .int v1)]) hx hb dX8_reduce_62 hl (k := 3) rfl (inc_p _ (by decide)) (by decide) rfl (fun ls hl => ?_)
        refine lv_goto (tgt := 9) hx hb dX8_reduce_65 (by decide) ?_
        cases h
        exact k2 _ rfl _ _ _ (lv_sub hl [1, 2, 3, 0] rfl) hw
      clear h
      replace h := j8
      clear j8
      refine m_lcmp_ge (tgt := 59) hx hb dX8_reduce_45 dX8_reduce_46 (by decide) (fun hc => ?_) (fun hc => ?_)
      · replace h := ite_t hc h
        refine lv_lload hx hb dX8_reduce_59 (lv_at hl 0 rfl) ?_
        cases h
        exact kj _ _ _ (lv_sub hl [1, 2, 3, 4] rfl) hw
      · replace h := ite_f hc h
        refine lv_lload hx hb dX8_reduce_49 (lv_at hl 0 rfl) ?_
        refine lv_aload_n hx hb dX8_reduce_51 rfl (lv_at hl 1 rfl) ?_
        refine m_get (k := 36) (C := RX8) (T := TX8) (N := 18) (ref := "LiftFactorsModel") (v := .long (M2.1 36 9)) hx hb hi hts inX8_u hown hw (by decide) rfl 9 (by decide) q_29 rfl rfl dX8_reduce_52 ?_
        refine lv_ladd hx hb dX8_reduce_55 ?_
        refine lv_goto (tgt := 61) hx hb dX8_reduce_56 (by decide) ?_
        cases h
        exact kj _ _ _ (lv_sub hl [1, 2, 3, 4] rfl) hw
  · clear hw hl
    intro ls H locs hl hw
    (try dsimp only at hl hw ⊢)
    refine lv_aload_n hx hb dX8_reduce_68 rfl (lv_at hl 0 rfl) ?_
    refine lv_iload_n hx hb dX8_reduce_69 rfl (lv_at hl 1 rfl) ?_
    refine lv_iload_n hx hb dX8_reduce_70 rfl (lv_at hl 2 rfl) ?_
    replace h := bnd h
    obtain ⟨v11, e11, h⟩ := h
    refine m_callVv (k := 36) (As := [.int a0, .int v1]) (rest := []) cx.fix hi hw (cc_X8_trim (l := l) (G := G) (sz := H.size) hi e11) (by decide) rfl rfl (w_cV 2 hts q_11 q_12 q_13 q_14 q_15 rfl rfl (by decide) (by decide)) hl.1 rfl (lv_room (Nat.le_of_ble_eq_true rfl)) dX8_reduce_71 (fun H locs hw => ?_)
    cases h
    exact kr _ _ _ _ dX8_reduce_74 hw
theorem cc_X8_reduce {l : Launch} {G : gG} {adr : Nat → Nat} {sz : Nat} (hi : adi adr) {n : Nat} {a0 : Int32} {M M' : Mem} (h : f_X8_reduce n a0 M = some M') : mV l yX8_reduce cX8_reduce 6 none { frames := 1, cells := 0, slots := 0, locals := 23 } G adr [.ref (adr 36), .int a0] M sz M' := by
  refine wEnter (by decide) (Nat.le_of_ble_eq_true rfl) ?_
  intro p e s m below meth c ls cx hinit hl hsz hw
  exact b_X8_reduce cx hi h (fun pc ls H locs hd hw => w_vret (post := fun (u : Mem) => u = M') (lf := fun u => (LL adr, wf G adr u)) cx.1 cx.2.1 cx.2.2.1 cx.2.2.2.2.2.2 M' hw rfl hd) hl hw
theorem q_36 : Cond.constantLong RX8 84 (2) ∈ uU := uU_in (by decide +kernel) (by decide +kernel)
theorem q_37 : Cond.methodLink RX8 86 yX8_power ∈ uU := uU_in (by decide +kernel) (by decide +kernel)
theorem q_38 : Cond.instanceMethod yX8_power ∈ uU := uU_in (by decide +kernel) (by decide +kernel)
theorem q_39 : Cond.selects yX8_power.cls yX8_power yX8_power ∈ uU := uU_in (by decide +kernel) (by decide +kernel)
theorem q_40 : Cond.initialized yX8_power.cls ∈ uU := uU_in (by decide +kernel) (by decide +kernel)
theorem q_41 : Cond.code yX8_power cX8_power 11 (some .long) ∈ uU := uU_in (by decide +kernel) (by decide +kernel)
def l_X8_monic_42 (a0 : Int32) (v4 : Int64) : Mem × Int32 → Option ((Mem) ⊕ (Mem × Int32)) := fun (M5, v6) =>
  Option.bind (ldI M5 42 a0) fun v7 =>
  if v7 < v6 then
    some (.inl M5)
  else
    Option.bind (
      if (M5.1 36 9) = (2 : Int64) then
        Option.bind (ldJ M5 41 (((24 : Int32) * a0) + v6)) fun v10 =>
        some v10
      else
        Option.bind (ldJ M5 41 (((24 : Int32) * a0) + v6)) fun v8 =>
        Option.bind (f_X8_product v8 v4 M5) fun v9 =>
        some v9) fun v11 =>
    Option.bind (stJ M5 41 (((24 : Int32) * a0) + v6) v11) fun v12 =>
    some (.inr (v12, v6 + 1))
def f_X8_monic (n : Nat) (a0 : Int32) (M : Mem) : Option Mem :=
  Option.bind (ldI M 42 a0) fun v1 =>
  if 0 ≤ v1 then
    Option.bind (ldI M 42 a0) fun v2 =>
    Option.bind (ldJ M 41 (((24 : Int32) * a0) + v2)) fun v3 =>
    Option.bind (f_X8_power n v3 ((M.1 36 9) - (2 : Int64)) M) fun v4 =>
    Option.bind (lpF (l_X8_monic_42 a0 v4) n (M, (0 : Int32))) fun M15 =>
    some M15
  else
    some M
set_option maxRecDepth 100000 in
set_option maxHeartbeats 8000000 in
theorem b_X8_monic {p : Program} {l : Launch} {e : Env} {s : State} {m : MethodId} {args : Array Value} {below : List Frame} {meth : Method} {c : Code} {Q : State → Prop} {G : gG} {A : Nat → Prop} {adr : Nat → Nat} (cx : cX p s m args meth c cX8_monic none 5 yX8_monic.cls) (hi : adi adr) {n : Nat} {a0 : Int32} {M M' : Mem} 
    (h : f_X8_monic n a0 M = some M')
    (kr : ∀ (pc : Nat) (ls : Array Slot) (H : Heap) (locs : List Loc), decode cX8_monic pc = .ok (.return_, 1) → wH G A s.heap s (LL adr) (wf G adr M') H locs → W p l e { frames := 2, cells := 0, slots := 0, locals := 56 } s m args below meth c H locs 0 0 Q (F0 m pc ls []))
    {ls : Array Slot} {H : Heap} {locs : List Loc} (hl : lv_has ls 5 [(0, .ref (adr 36)), (1, .int a0)]) (hw : wH G A s.heap s (LL adr) (wf G adr M) H locs) : W p l e { frames := 2, cells := 0, slots := 0, locals := 56 } s m args below meth c H locs 0 0 Q (F0 m 0 ls []) := by
  obtain ⟨hx, hb, -, -, hown, hts, -⟩ := id cx
  have hown : s.vm.findClass RX8 = some m.cls := hown
  unfold f_X8_monic at h
  refine lv_aload_n hx hb dX8_monic_0 rfl (lv_at hl 0 rfl) ?_
  refine m_get (k := 36) (C := RX8) (T := TX8) (N := 18) (ref := "LiftFactorsModel") (v := .ref (adr 42)) hx hb hi hts inX8_u hown hw (by decide) rfl 8 (by decide) q_1 rfl rfl dX8_monic_1 ?_
  refine lv_iload_n hx hb dX8_monic_4 rfl (lv_at hl 1 rfl) ?_
  replace h := bnd h
  obtain ⟨v1, e1, h⟩ := h
  refine m_iald hx hb hi hw e1 dX8_monic_5 ?_
  refine lv_if_ge (tgt := 10) hx hb dX8_monic_6 (by decide) (fun hc => ?_) (fun hc => ?_)
  · replace h := ite_t hc h
    refine lv_aload_n hx hb dX8_monic_10 rfl (lv_at hl 0 rfl) ?_
    refine lv_aload_n hx hb dX8_monic_11 rfl (lv_at hl 0 rfl) ?_
    refine m_get (k := 36) (C := RX8) (T := TX8) (N := 18) (ref := "LiftFactorsModel") (v := .ref (adr 41)) hx hb hi hts inX8_u hown hw (by decide) rfl 7 (by decide) q_0 rfl rfl dX8_monic_12 ?_
    refine lv_bipush (v := (24 : Int32)) hx hb dX8_monic_15 (by decide) ?_
    refine lv_iload_n hx hb dX8_monic_17 rfl (lv_at hl 1 rfl) ?_
    refine lv_imul hx hb dX8_monic_18 ?_
    refine lv_aload_n hx hb dX8_monic_19 rfl (lv_at hl 0 rfl) ?_
    refine m_get (k := 36) (C := RX8) (T := TX8) (N := 18) (ref := "LiftFactorsModel") (v := .ref (adr 42)) hx hb hi hts inX8_u hown hw (by decide) rfl 8 (by decide) q_1 rfl rfl dX8_monic_20 ?_
    refine lv_iload_n hx hb dX8_monic_23 rfl (lv_at hl 1 rfl) ?_
    replace h := bnd h
    obtain ⟨v2, e2, h⟩ := h
    refine m_iald hx hb hi hw e2 dX8_monic_24 ?_
    refine lv_iadd hx hb dX8_monic_25 ?_
    replace h := bnd h
    obtain ⟨v3, e3, h⟩ := h
    refine m_lald hx hb hi hw e3 dX8_monic_26 ?_
    refine lv_aload_n hx hb dX8_monic_27 rfl (lv_at hl 0 rfl) ?_
    refine m_get (k := 36) (C := RX8) (T := TX8) (N := 18) (ref := "LiftFactorsModel") (v := .long (M.1 36 9)) hx hb hi hts inX8_u hown hw (by decide) rfl 9 (by decide) q_29 rfl rfl dX8_monic_28 ?_
    refine lv_ldc2 (v := (2 : Int64)) hx hb hown (hts _ q_36) dX8_monic_31 ?_
    refine lv_lsub hx hb dX8_monic_34 ?_
    replace h := bnd h
    obtain ⟨v4, e4, h⟩ := h
    refine m_callVl (k := 36) (As := [.long v3, .long ((M.1 36 9) - (2 : Int64))]) (rest := []) cx.fix hi hw (cc_X8_power (l := l) (G := G) (sz := H.size) hi e4) (by decide) rfl rfl (w_cV 2 hts q_37 q_38 q_39 q_40 q_41 rfl rfl (by decide) (by decide)) hl.1 rfl (lv_room (Nat.le_of_ble_eq_true rfl)) dX8_monic_35 (fun H locs hw => ?_)
    refine lv_lstore_n (lv' := [(2, .long v4), (0, .ref (adr 36)), (1, .int a0)]) hx hb dX8_monic_38 rfl hl (by decide) rfl (fun ls hl => ?_)
    refine lv_iconst (v := (0 : Int32)) hx hb dX8_monic_39 (by decide) ?_
    refine lv_istore (lv' := [(4, .int (0 : Int32)), (2, .long v4), (0, .ref (adr 36)), (1, .int a0)]) hx hb dX8_monic_40 hl (by decide) rfl (fun ls hl => ?_)
    replace h := bnd h
    obtain ⟨M15, j14, h⟩ := h
    refine lp_W (Wst := fun (st : Mem × Int32) => ∀ (ls : Array Slot) (H : Heap) (locs : List Loc), lv_has ls 5 [(0, .ref (adr 36)), (1, .int a0), (2, .long v4), (4, .int st.2)] → wH G A s.heap s (LL adr) (wf G adr st.1) H locs → W p l e { frames := 2, cells := 0, slots := 0, locals := 56 } s m args below meth c H locs 0 0 Q (F0 m 42 ls [])) (fin := fun (r : Mem) => ∀ (ls : Array Slot) (H : Heap) (locs : List Loc), lv_has ls 5 [] → wH G A s.heap s (LL adr) (wf G adr r) H locs → W p l e { frames := 2, cells := 0, slots := 0, locals := 56 } s m args below meth c H locs 0 0 Q (F0 m 114 ls [])) ?_ n _ _ j14 ?_ _ _ _ (lv_sub hl [2, 3, 1, 0] rfl) hw
    · clear h j14 hw hl
      intro ⟨M5, v6⟩ x h k1 k2 ls H locs hl hw
      (try dsimp only at k1 k2 hl hw ⊢)
      unfold l_X8_monic_42 at h
      (try dsimp only at h)
      refine lv_iload hx hb dX8_monic_42 (lv_at hl 3 rfl) ?_
      refine lv_aload_n hx hb dX8_monic_44 rfl (lv_at hl 0 rfl) ?_
      refine m_get (k := 36) (C := RX8) (T := TX8) (N := 18) (ref := "LiftFactorsModel") (v := .ref (adr 42)) hx hb hi hts inX8_u hown hw (by decide) rfl 8 (by decide) q_1 rfl rfl dX8_monic_45 ?_
      refine lv_iload_n hx hb dX8_monic_48 rfl (lv_at hl 1 rfl) ?_
      replace h := bnd h
      obtain ⟨v7, e7, h⟩ := h
      refine m_iald hx hb hi hw e7 dX8_monic_49 ?_
      refine lv_icmp_gt (tgt := 114) hx hb dX8_monic_50 (by decide) (fun hc => ?_) (fun hc => ?_)
      · replace h := ite_t hc h
        cases h
        exact k1 _ rfl _ _ _ (lv_sub hl [] rfl) hw
      · replace h := ite_f hc h
        refine lv_aload_n hx hb dX8_monic_53 rfl (lv_at hl 0 rfl) ?_
        refine m_get (k := 36) (C := RX8) (T := TX8) (N := 18) (ref := "LiftFactorsModel") (v := .ref (adr 41)) hx hb hi hts inX8_u hown hw (by decide) rfl 7 (by decide) q_0 rfl rfl dX8_monic_54 ?_
        refine lv_bipush (v := (24 : Int32)) hx hb dX8_monic_57 (by decide) ?_
        refine lv_iload_n hx hb dX8_monic_59 rfl (lv_at hl 1 rfl) ?_
        refine lv_imul hx hb dX8_monic_60 ?_
        refine lv_iload hx hb dX8_monic_61 (lv_at hl 3 rfl) ?_
        refine lv_iadd hx hb dX8_monic_63 ?_
        refine lv_aload_n hx hb dX8_monic_64 rfl (lv_at hl 0 rfl) ?_
        refine m_get (k := 36) (C := RX8) (T := TX8) (N := 18) (ref := "LiftFactorsModel") (v := .long (M5.1 36 9)) hx hb hi hts inX8_u hown hw (by decide) rfl 9 (by decide) q_29 rfl rfl dX8_monic_65 ?_
        refine lv_ldc2 (v := (2 : Int64)) hx hb hown (hts _ q_36) dX8_monic_68 ?_
        replace h := bnd h
        obtain ⟨v11, j13, h⟩ := h
        have kj : ∀ (ls : Array Slot) (H : Heap) (locs : List Loc), lv_has ls 5 [(0, .ref (adr 36)), (1, .int a0), (2, .long v4), (4, .int v6)] → wH G A s.heap s (LL adr) (wf G adr M5) H locs → W p l e { frames := 2, cells := 0, slots := 0, locals := 56 } s m args below meth c H locs 0 0 Q (F0 m 107 ls [.long v11, .int (((24 : Int32) * a0) + v6), .ref (adr 41)]) := by
          intro ls H locs hl hw
          replace h := bnd h
          obtain ⟨v12, e12, h⟩ := h
          refine m_last hx hb hi hw e12 dX8_monic_107 (fun H locs hw => ?_)
          refine lv_iinc (v := v6 + 1) (lv' := [(4, .int (v6 + 1)), (0, .ref (adr 36)), (1, .int a0), (2, .long v4)]) hx hb dX8_monic_108 hl (k := 3) rfl (inc_p _ (by decide)) (by decide) rfl (fun ls hl => ?_)
          refine lv_goto (tgt := 42) hx hb dX8_monic_111 (by decide) ?_
          cases h
          exact k2 _ rfl _ _ _ (lv_sub hl [1, 2, 3, 0] rfl) hw
        clear h
        replace h := j13
        clear j13
        refine m_lcmp_ne (tgt := 90) hx hb dX8_monic_71 dX8_monic_72 (by decide) (fun hc => ?_) (fun hc => ?_)
        · replace h := ite_f hc h
          refine lv_aload_n hx hb dX8_monic_90 rfl (lv_at hl 0 rfl) ?_
          refine lv_aload_n hx hb dX8_monic_91 rfl (lv_at hl 0 rfl) ?_
          refine m_get (k := 36) (C := RX8) (T := TX8) (N := 18) (ref := "LiftFactorsModel") (v := .ref (adr 41)) hx hb hi hts inX8_u hown hw (by decide) rfl 7 (by decide) q_0 rfl rfl dX8_monic_92 ?_
          refine lv_bipush (v := (24 : Int32)) hx hb dX8_monic_95 (by decide) ?_
          refine lv_iload_n hx hb dX8_monic_97 rfl (lv_at hl 1 rfl) ?_
          refine lv_imul hx hb dX8_monic_98 ?_
          refine lv_iload hx hb dX8_monic_99 (lv_at hl 3 rfl) ?_
          refine lv_iadd hx hb dX8_monic_101 ?_
          replace h := bnd h
          obtain ⟨v8, e8, h⟩ := h
          refine m_lald hx hb hi hw e8 dX8_monic_102 ?_
          refine lv_lload_n hx hb dX8_monic_103 rfl (lv_at hl 2 rfl) ?_
          replace h := bnd h
          obtain ⟨v9, e9, h⟩ := h
          refine m_callVl (k := 36) (As := [.long v8, .long v4]) (rest := [.int (((24 : Int32) * a0) + v6), .ref (adr 41)]) cx.fix hi hw (cc_X8_product (l := l) (G := G) (sz := H.size) hi e9) (by decide) rfl rfl (w_cV 2 hts q_31 q_32 q_33 q_34 q_35 rfl rfl (by decide) (by decide)) hl.1 rfl (lv_room (Nat.le_of_ble_eq_true rfl)) dX8_monic_104 (fun H locs hw => ?_)
          cases h
          exact kj _ _ _ (lv_sub hl [0, 1, 2, 3] rfl) hw
        · replace h := ite_t hc h
          refine lv_aload_n hx hb dX8_monic_75 rfl (lv_at hl 0 rfl) ?_
          refine m_get (k := 36) (C := RX8) (T := TX8) (N := 18) (ref := "LiftFactorsModel") (v := .ref (adr 41)) hx hb hi hts inX8_u hown hw (by decide) rfl 7 (by decide) q_0 rfl rfl dX8_monic_76 ?_
          refine lv_bipush (v := (24 : Int32)) hx hb dX8_monic_79 (by decide) ?_
          refine lv_iload_n hx hb dX8_monic_81 rfl (lv_at hl 1 rfl) ?_
          refine lv_imul hx hb dX8_monic_82 ?_
          refine lv_iload hx hb dX8_monic_83 (lv_at hl 3 rfl) ?_
          refine lv_iadd hx hb dX8_monic_85 ?_
          replace h := bnd h
          obtain ⟨v10, e10, h⟩ := h
          refine m_lald hx hb hi hw e10 dX8_monic_86 ?_
          refine lv_goto (tgt := 107) hx hb dX8_monic_87 (by decide) ?_
          cases h
          exact kj _ _ _ (lv_sub hl [0, 1, 2, 3] rfl) hw
    · clear hw hl
      intro ls H locs hl hw
      (try dsimp only at hl hw ⊢)
      cases h
      exact kr _ _ _ _ dX8_monic_114 hw
  · replace h := ite_f hc h
    cases h
    exact kr _ _ _ _ dX8_monic_9 hw
theorem cc_X8_monic {l : Launch} {G : gG} {adr : Nat → Nat} {sz : Nat} (hi : adi adr) {n : Nat} {a0 : Int32} {M M' : Mem} (h : f_X8_monic n a0 M = some M') : mV l yX8_monic cX8_monic 5 none { frames := 2, cells := 0, slots := 0, locals := 56 } G adr [.ref (adr 36), .int a0] M sz M' := by
  refine wEnter (by decide) (Nat.le_of_ble_eq_true rfl) ?_
  intro p e s m below meth c ls cx hinit hl hsz hw
  exact b_X8_monic cx hi h (fun pc ls H locs hd hw => w_vret (post := fun (u : Mem) => u = M') (lf := fun u => (LL adr, wf G adr u)) cx.1 cx.2.1 cx.2.2.1 cx.2.2.2.2.2.2 M' hw rfl hd) hl hw
def l_X8_rest_58 (a0 : Int32) (a1 : Int32) (v4 : Int32) (v6 : Int64) : Mem × Int32 → Option ((Mem) ⊕ (Mem × Int32)) := fun (M8, v9) =>
  Option.bind (ldI M8 42 a1) fun v10 =>
  if v10 < v9 then
    some (.inl M8)
  else
    if v6 = (0 : Int64) then
      some (.inl M8)
    else
      Option.bind (ldJ M8 41 ((((24 : Int32) * a0) + v4) + v9)) fun v11 =>
      Option.bind (ldJ M8 41 (((24 : Int32) * a1) + v9)) fun v12 =>
      Option.bind (f_X8_product v6 v12 M8) fun v13 =>
      Option.bind (
        if (0 : Int64) ≤ (v11 - v13) then
          some (v11 - v13)
        else
          some ((v11 - v13) + (M8.1 36 9))) fun v14 =>
      Option.bind (stJ M8 41 ((((24 : Int32) * a0) + v4) + v9) v14) fun v15 =>
      some (.inr (v15, v9 + 1))
def l_X8_rest_17 (n : Nat) (a0 : Int32) (a1 : Int32) : Mem × Int32 → Option ((Mem) ⊕ (Mem × Int32)) := fun (M3, v4) =>
  if v4 < 0 then
    some (.inl M3)
  else
    Option.bind (ldI M3 42 a1) fun v5 =>
    Option.bind (ldJ M3 41 ((((24 : Int32) * a0) + v4) + v5)) fun v6 =>
    Option.bind (stJ M3 41 ((72 : Int32) + v4) v6) fun v7 =>
    Option.bind (lpF (l_X8_rest_58 a0 a1 v4 v6) n (v7, (0 : Int32))) fun M18 =>
    some (.inr (M18, v4 + (-1)))
def f_X8_rest (n : Nat) (a0 : Int32) (a1 : Int32) (M : Mem) : Option Mem :=
  Option.bind (ldI M 42 a0) fun v1 =>
  Option.bind (ldI M 42 a1) fun v2 =>
  Option.bind (lpF (l_X8_rest_17 n a0 a1) n (M, v1 - v2)) fun M20 =>
  Option.bind (ldI M20 42 a1) fun v21 =>
  Option.bind (f_X8_trim n (3 : Int32) (v1 - v21) M20) fun v22 =>
  Option.bind (ldI v22 42 a1) fun v23 =>
  Option.bind (
    if v23 ≤ v1 then
      Option.bind (ldI v22 42 a1) fun v24 =>
      some (v24 - (1 : Int32))
    else
      some v1) fun v25 =>
  Option.bind (f_X8_trim n a0 v25 v22) fun v26 =>
  some v26
set_option maxRecDepth 100000 in
set_option maxHeartbeats 8000000 in
theorem b_X8_rest {p : Program} {l : Launch} {e : Env} {s : State} {m : MethodId} {args : Array Value} {below : List Frame} {meth : Method} {c : Code} {Q : State → Prop} {G : gG} {A : Nat → Prop} {adr : Nat → Nat} (cx : cX p s m args meth c cX8_rest none 10 yX8_rest.cls) (hi : adi adr) {n : Nat} {a0 : Int32} {a1 : Int32} {M M' : Mem} 
    (h : f_X8_rest n a0 a1 M = some M')
    (kr : ∀ (pc : Nat) (ls : Array Slot) (H : Heap) (locs : List Loc), decode cX8_rest pc = .ok (.return_, 1) → wH G A s.heap s (LL adr) (wf G adr M') H locs → W p l e { frames := 1, cells := 0, slots := 0, locals := 26 } s m args below meth c H locs 0 0 Q (F0 m pc ls []))
    {ls : Array Slot} {H : Heap} {locs : List Loc} (hl : lv_has ls 10 [(0, .ref (adr 36)), (1, .int a0), (2, .int a1)]) (hw : wH G A s.heap s (LL adr) (wf G adr M) H locs) : W p l e { frames := 1, cells := 0, slots := 0, locals := 26 } s m args below meth c H locs 0 0 Q (F0 m 0 ls []) := by
  obtain ⟨hx, hb, -, -, hown, hts, -⟩ := id cx
  have hown : s.vm.findClass RX8 = some m.cls := hown
  unfold f_X8_rest at h
  refine lv_aload_n hx hb dX8_rest_0 rfl (lv_at hl 0 rfl) ?_
  refine m_get (k := 36) (C := RX8) (T := TX8) (N := 18) (ref := "LiftFactorsModel") (v := .ref (adr 42)) hx hb hi hts inX8_u hown hw (by decide) rfl 8 (by decide) q_1 rfl rfl dX8_rest_1 ?_
  refine lv_iload_n hx hb dX8_rest_4 rfl (lv_at hl 1 rfl) ?_
  replace h := bnd h
  obtain ⟨v1, e1, h⟩ := h
  refine m_iald hx hb hi hw e1 dX8_rest_5 ?_
  refine lv_istore_n (lv' := [(3, .int v1), (0, .ref (adr 36)), (1, .int a0), (2, .int a1)]) hx hb dX8_rest_6 rfl hl (by decide) rfl (fun ls hl => ?_)
  refine lv_iload_n hx hb dX8_rest_7 rfl (lv_at hl 0 rfl) ?_
  refine lv_aload_n hx hb dX8_rest_8 rfl (lv_at hl 1 rfl) ?_
  refine m_get (k := 36) (C := RX8) (T := TX8) (N := 18) (ref := "LiftFactorsModel") (v := .ref (adr 42)) hx hb hi hts inX8_u hown hw (by decide) rfl 8 (by decide) q_1 rfl rfl dX8_rest_9 ?_
  refine lv_iload_n hx hb dX8_rest_12 rfl (lv_at hl 3 rfl) ?_
  replace h := bnd h
  obtain ⟨v2, e2, h⟩ := h
  refine m_iald hx hb hi hw e2 dX8_rest_13 ?_
  refine lv_isub hx hb dX8_rest_14 ?_
  refine lv_istore (lv' := [(4, .int (v1 - v2)), (3, .int v1), (0, .ref (adr 36)), (1, .int a0), (2, .int a1)]) hx hb dX8_rest_15 hl (by decide) rfl (fun ls hl => ?_)
  replace h := bnd h
  obtain ⟨M20, j19, h⟩ := h
  refine lp_W (Wst := fun (st : Mem × Int32) => ∀ (ls : Array Slot) (H : Heap) (locs : List Loc), lv_has ls 10 [(0, .ref (adr 36)), (1, .int a0), (2, .int a1), (3, .int v1), (4, .int st.2)] → wH G A s.heap s (LL adr) (wf G adr st.1) H locs → W p l e { frames := 1, cells := 0, slots := 0, locals := 26 } s m args below meth c H locs 0 0 Q (F0 m 17 ls [])) (fin := fun (r : Mem) => ∀ (ls : Array Slot) (H : Heap) (locs : List Loc), lv_has ls 10 [(0, .ref (adr 36)), (1, .int a0), (2, .int a1), (3, .int v1)] → wH G A s.heap s (LL adr) (wf G adr r) H locs → W p l e { frames := 1, cells := 0, slots := 0, locals := 26 } s m args below meth c H locs 0 0 Q (F0 m 158 ls [])) ?_ n _ _ j19 ?_ _ _ _ (lv_sub hl [2, 3, 4, 1, 0] rfl) hw
  · clear h j19 hw hl
    intro ⟨M3, v4⟩ x h k1 k2 ls H locs hl hw
    (try dsimp only at k1 k2 hl hw ⊢)
    unfold l_X8_rest_17 at h
    (try dsimp only at h)
    refine lv_iload hx hb dX8_rest_17 (lv_at hl 4 rfl) ?_
    refine lv_if_lt (tgt := 158) hx hb dX8_rest_19 (by decide) (fun hc => ?_) (fun hc => ?_)
    · replace h := ite_t hc h
      cases h
      exact k1 _ rfl _ _ _ (lv_sub hl [0, 1, 2, 3] rfl) hw
    · replace h := ite_f hc h
      refine lv_aload_n hx hb dX8_rest_22 rfl (lv_at hl 0 rfl) ?_
      refine m_get (k := 36) (C := RX8) (T := TX8) (N := 18) (ref := "LiftFactorsModel") (v := .ref (adr 41)) hx hb hi hts inX8_u hown hw (by decide) rfl 7 (by decide) q_0 rfl rfl dX8_rest_23 ?_
      refine lv_bipush (v := (24 : Int32)) hx hb dX8_rest_26 (by decide) ?_
      refine lv_iload_n hx hb dX8_rest_28 rfl (lv_at hl 1 rfl) ?_
      refine lv_imul hx hb dX8_rest_29 ?_
      refine lv_iload hx hb dX8_rest_30 (lv_at hl 4 rfl) ?_
      refine lv_iadd hx hb dX8_rest_32 ?_
      refine lv_aload_n hx hb dX8_rest_33 rfl (lv_at hl 0 rfl) ?_
      refine m_get (k := 36) (C := RX8) (T := TX8) (N := 18) (ref := "LiftFactorsModel") (v := .ref (adr 42)) hx hb hi hts inX8_u hown hw (by decide) rfl 8 (by decide) q_1 rfl rfl dX8_rest_34 ?_
      refine lv_iload_n hx hb dX8_rest_37 rfl (lv_at hl 2 rfl) ?_
      replace h := bnd h
      obtain ⟨v5, e5, h⟩ := h
      refine m_iald hx hb hi hw e5 dX8_rest_38 ?_
      refine lv_iadd hx hb dX8_rest_39 ?_
      replace h := bnd h
      obtain ⟨v6, e6, h⟩ := h
      refine m_lald hx hb hi hw e6 dX8_rest_40 ?_
      refine lv_lstore (lv' := [(5, .long v6), (0, .ref (adr 36)), (1, .int a0), (2, .int a1), (3, .int v1), (4, .int v4)]) hx hb dX8_rest_41 hl (by decide) rfl (fun ls hl => ?_)
      refine lv_aload_n hx hb dX8_rest_43 rfl (lv_at hl 1 rfl) ?_
      refine m_get (k := 36) (C := RX8) (T := TX8) (N := 18) (ref := "LiftFactorsModel") (v := .ref (adr 41)) hx hb hi hts inX8_u hown hw (by decide) rfl 7 (by decide) q_0 rfl rfl dX8_rest_44 ?_
      refine lv_bipush (v := (72 : Int32)) hx hb dX8_rest_47 (by decide) ?_
      refine lv_iload hx hb dX8_rest_49 (lv_at hl 5 rfl) ?_
      refine lv_iadd hx hb dX8_rest_51 ?_
      refine lv_lload hx hb dX8_rest_52 (lv_at hl 0 rfl) ?_
      replace h := bnd h
      obtain ⟨v7, e7, h⟩ := h
      refine m_last hx hb hi hw e7 dX8_rest_54 (fun H locs hw => ?_)
      refine lv_iconst (v := (0 : Int32)) hx hb dX8_rest_55 (by decide) ?_
      refine lv_istore (lv' := [(7, .int (0 : Int32)), (5, .long v6), (0, .ref (adr 36)), (1, .int a0), (2, .int a1), (3, .int v1), (4, .int v4)]) hx hb dX8_rest_56 hl (by decide) rfl (fun ls hl => ?_)
      replace h := bnd h
      obtain ⟨M18, j17, h⟩ := h
      refine lp_W (Wst := fun (st : Mem × Int32) => ∀ (ls : Array Slot) (H : Heap) (locs : List Loc), lv_has ls 10 [(0, .ref (adr 36)), (1, .int a0), (2, .int a1), (3, .int v1), (4, .int v4), (5, .long v6), (7, .int st.2)] → wH G A s.heap s (LL adr) (wf G adr st.1) H locs → W p l e { frames := 1, cells := 0, slots := 0, locals := 26 } s m args below meth c H locs 0 0 Q (F0 m 58 ls [])) (fin := fun (r : Mem) => ∀ (ls : Array Slot) (H : Heap) (locs : List Loc), lv_has ls 10 [(0, .ref (adr 36)), (1, .int a0), (2, .int a1), (3, .int v1), (4, .int v4)] → wH G A s.heap s (LL adr) (wf G adr r) H locs → W p l e { frames := 1, cells := 0, slots := 0, locals := 26 } s m args below meth c H locs 0 0 Q (F0 m 152 ls [])) ?_ n _ _ j17 ?_ _ _ _ (lv_sub hl [2, 3, 4, 5, 6, 1, 0] rfl) hw
      · clear h j17 hw hl
        intro ⟨M8, v9⟩ x h k1 k2 ls H locs hl hw
        (try dsimp only at k1 k2 hl hw ⊢)
        unfold l_X8_rest_58 at h
        (try dsimp only at h)
        refine lv_iload hx hb dX8_rest_58 (lv_at hl 6 rfl) ?_
        refine lv_aload_n hx hb dX8_rest_60 rfl (lv_at hl 0 rfl) ?_
        refine m_get (k := 36) (C := RX8) (T := TX8) (N := 18) (ref := "LiftFactorsModel") (v := .ref (adr 42)) hx hb hi hts inX8_u hown hw (by decide) rfl 8 (by decide) q_1 rfl rfl dX8_rest_61 ?_
        refine lv_iload_n hx hb dX8_rest_64 rfl (lv_at hl 2 rfl) ?_
        replace h := bnd h
        obtain ⟨v10, e10, h⟩ := h
        refine m_iald hx hb hi hw e10 dX8_rest_65 ?_
        refine lv_icmp_gt (tgt := 152) hx hb dX8_rest_66 (by decide) (fun hc => ?_) (fun hc => ?_)
        · replace h := ite_t hc h
          cases h
          exact k1 _ rfl _ _ _ (lv_sub hl [0, 1, 2, 3, 4] rfl) hw
        · replace h := ite_f hc h
          refine lv_lload hx hb dX8_rest_69 (lv_at hl 5 rfl) ?_
          refine lv_lconst (v := (0 : Int64)) hx hb dX8_rest_71 (by decide) ?_
          refine m_lcmp_eq (tgt := 152) hx hb dX8_rest_72 dX8_rest_73 (by decide) (fun hc => ?_) (fun hc => ?_)
          · replace h := ite_t hc h
            cases h
            exact k1 _ rfl _ _ _ (lv_sub hl [0, 1, 2, 3, 4] rfl) hw
          · replace h := ite_f hc h
            refine lv_aload_n hx hb dX8_rest_76 rfl (lv_at hl 0 rfl) ?_
            refine m_get (k := 36) (C := RX8) (T := TX8) (N := 18) (ref := "LiftFactorsModel") (v := .ref (adr 41)) hx hb hi hts inX8_u hown hw (by decide) rfl 7 (by decide) q_0 rfl rfl dX8_rest_77 ?_
            refine lv_bipush (v := (24 : Int32)) hx hb dX8_rest_80 (by decide) ?_
            refine lv_iload_n hx hb dX8_rest_82 rfl (lv_at hl 1 rfl) ?_
            refine lv_imul hx hb dX8_rest_83 ?_
            refine lv_iload hx hb dX8_rest_84 (lv_at hl 4 rfl) ?_
            refine lv_iadd hx hb dX8_rest_86 ?_
            refine lv_iload hx hb dX8_rest_87 (lv_at hl 6 rfl) ?_
            refine lv_iadd hx hb dX8_rest_89 ?_
            replace h := bnd h
            obtain ⟨v11, e11, h⟩ := h
            refine m_lald hx hb hi hw e11 dX8_rest_90 ?_
            refine lv_aload_n hx hb dX8_rest_91 rfl (lv_at hl 0 rfl) ?_
            refine lv_lload hx hb dX8_rest_92 (lv_at hl 5 rfl) ?_
            refine lv_aload_n hx hb dX8_rest_94 rfl (lv_at hl 0 rfl) ?_
            refine m_get (k := 36) (C := RX8) (T := TX8) (N := 18) (ref := "LiftFactorsModel") (v := .ref (adr 41)) hx hb hi hts inX8_u hown hw (by decide) rfl 7 (by decide) q_0 rfl rfl dX8_rest_95 ?_
            refine lv_bipush (v := (24 : Int32)) hx hb dX8_rest_98 (by decide) ?_
            refine lv_iload_n hx hb dX8_rest_100 rfl (lv_at hl 2 rfl) ?_
            refine lv_imul hx hb dX8_rest_101 ?_
            refine lv_iload hx hb dX8_rest_102 (lv_at hl 6 rfl) ?_
            refine lv_iadd hx hb dX8_rest_104 ?_
            replace h := bnd h
            obtain ⟨v12, e12, h⟩ := h
            refine m_lald hx hb hi hw e12 dX8_rest_105 ?_
            replace h := bnd h
            obtain ⟨v13, e13, h⟩ := h
            refine m_callVl (k := 36) (As := [.long v6, .long v12]) (rest := [.long v11]) cx.fix hi hw (cc_X8_product (l := l) (G := G) (sz := H.size) hi e13) (by decide) rfl rfl (w_cV 2 hts q_31 q_32 q_33 q_34 q_35 rfl rfl (by decide) (by decide)) hl.1 rfl (lv_room (Nat.le_of_ble_eq_true rfl)) dX8_rest_106 (fun H locs hw => ?_)
            refine lv_lsub hx hb dX8_rest_109 ?_
            refine lv_lstore (lv' := [(8, .long (v11 - v13)), (0, .ref (adr 36)), (1, .int a0), (2, .int a1), (3, .int v1), (4, .int v4), (5, .long v6), (7, .int v9)]) hx hb dX8_rest_110 hl (by decide) rfl (fun ls hl => ?_)
            refine lv_aload_n hx hb dX8_rest_112 rfl (lv_at hl 1 rfl) ?_
            refine m_get (k := 36) (C := RX8) (T := TX8) (N := 18) (ref := "LiftFactorsModel") (v := .ref (adr 41)) hx hb hi hts inX8_u hown hw (by decide) rfl 7 (by decide) q_0 rfl rfl dX8_rest_113 ?_
            refine lv_bipush (v := (24 : Int32)) hx hb dX8_rest_116 (by decide) ?_
            refine lv_iload_n hx hb dX8_rest_118 rfl (lv_at hl 2 rfl) ?_
            refine lv_imul hx hb dX8_rest_119 ?_
            refine lv_iload hx hb dX8_rest_120 (lv_at hl 5 rfl) ?_
            refine lv_iadd hx hb dX8_rest_122 ?_
            refine lv_iload hx hb dX8_rest_123 (lv_at hl 7 rfl) ?_
            refine lv_iadd hx hb dX8_rest_125 ?_
            refine lv_lload hx hb dX8_rest_126 (lv_at hl 0 rfl) ?_
            refine lv_lconst (v := (0 : Int64)) hx hb dX8_rest_128 (by decide) ?_
            replace h := bnd h
            obtain ⟨v14, j16, h⟩ := h
            have kj : ∀ (ls : Array Slot) (H : Heap) (locs : List Loc), lv_has ls 10 [(0, .ref (adr 36)), (1, .int a0), (2, .int a1), (3, .int v1), (4, .int v4), (5, .long v6), (7, .int v9)] → wH G A s.heap s (LL adr) (wf G adr M8) H locs → W p l e { frames := 1, cells := 0, slots := 0, locals := 26 } s m args below meth c H locs 0 0 Q (F0 m 145 ls [.long v14, .int ((((24 : Int32) * a0) + v4) + v9), .ref (adr 41)]) := by
              intro ls H locs hl hw
              replace h := bnd h
              obtain ⟨v15, e15, h⟩ := h
              refine m_last hx hb hi hw e15 dX8_rest_145 (fun H locs hw => ?_)
              refine lv_iinc (v := v9 + 1) (lv' := [(7, .int (v9 + 1)), (0, .ref (adr 36)), (1, .int a0), (2, .int a1), (3, .int v1), (4, .int v4), (5, .long v6)]) hx hb dX8_rest_146 hl (k := 6) rfl (inc_p _ (by decide)) (by decide) rfl (fun ls hl => ?_)
              refine lv_goto (tgt := 58) hx hb dX8_rest_149 (by decide) ?_
              cases h
              exact k2 _ rfl _ _ _ (lv_sub hl [1, 2, 3, 4, 5, 6, 0] rfl) hw
            clear h
            replace h := j16
            clear j16
            refine m_lcmp_ge (tgt := 143) hx hb dX8_rest_129 dX8_rest_130 (by decide) (fun hc => ?_) (fun hc => ?_)
            · replace h := ite_t hc h
              refine lv_lload hx hb dX8_rest_143 (lv_at hl 0 rfl) ?_
              cases h
              exact kj _ _ _ (lv_sub hl [1, 2, 3, 4, 5, 6, 7] rfl) hw
            · replace h := ite_f hc h
              refine lv_lload hx hb dX8_rest_133 (lv_at hl 0 rfl) ?_
              refine lv_aload_n hx hb dX8_rest_135 rfl (lv_at hl 1 rfl) ?_
              refine m_get (k := 36) (C := RX8) (T := TX8) (N := 18) (ref := "LiftFactorsModel") (v := .long (M8.1 36 9)) hx hb hi hts inX8_u hown hw (by decide) rfl 9 (by decide) q_29 rfl rfl dX8_rest_136 ?_
              refine lv_ladd hx hb dX8_rest_139 ?_
              refine lv_goto (tgt := 145) hx hb dX8_rest_140 (by decide) ?_
              cases h
              exact kj _ _ _ (lv_sub hl [1, 2, 3, 4, 5, 6, 7] rfl) hw
      · clear hw hl
        intro ls H locs hl hw
        (try dsimp only at hl hw ⊢)
        refine lv_iinc (v := v4 + (-1)) (lv' := [(4, .int (v4 + (-1))), (0, .ref (adr 36)), (1, .int a0), (2, .int a1), (3, .int v1)]) hx hb dX8_rest_152 hl (k := 4) rfl (inc_p _ (by decide)) (by decide) rfl (fun ls hl => ?_)
        refine lv_goto (tgt := 17) hx hb dX8_rest_155 (by decide) ?_
        cases h
        exact k2 _ rfl _ _ _ (lv_sub hl [1, 2, 3, 4, 0] rfl) hw
  · clear hw hl
    intro ls H locs hl hw
    (try dsimp only at hl hw ⊢)
    refine lv_aload_n hx hb dX8_rest_158 rfl (lv_at hl 0 rfl) ?_
    refine lv_iconst (v := (3 : Int32)) hx hb dX8_rest_159 (by decide) ?_
    refine lv_iload_n hx hb dX8_rest_160 rfl (lv_at hl 3 rfl) ?_
    refine lv_aload_n hx hb dX8_rest_161 rfl (lv_at hl 0 rfl) ?_
    refine m_get (k := 36) (C := RX8) (T := TX8) (N := 18) (ref := "LiftFactorsModel") (v := .ref (adr 42)) hx hb hi hts inX8_u hown hw (by decide) rfl 8 (by decide) q_1 rfl rfl dX8_rest_162 ?_
    refine lv_iload_n hx hb dX8_rest_165 rfl (lv_at hl 2 rfl) ?_
    replace h := bnd h
    obtain ⟨v21, e21, h⟩ := h
    refine m_iald hx hb hi hw e21 dX8_rest_166 ?_
    refine lv_isub hx hb dX8_rest_167 ?_
    replace h := bnd h
    obtain ⟨v22, e22, h⟩ := h
    refine m_callVv (k := 36) (As := [.int (3 : Int32), .int (v1 - v21)]) (rest := []) cx.fix hi hw (cc_X8_trim (l := l) (G := G) (sz := H.size) hi e22) (by decide) rfl rfl (w_cV 2 hts q_11 q_12 q_13 q_14 q_15 rfl rfl (by decide) (by decide)) hl.1 rfl (lv_room (Nat.le_of_ble_eq_true rfl)) dX8_rest_168 (fun H locs hw => ?_)
    refine lv_aload_n hx hb dX8_rest_171 rfl (lv_at hl 0 rfl) ?_
    refine lv_iload_n hx hb dX8_rest_172 rfl (lv_at hl 1 rfl) ?_
    refine lv_iload_n hx hb dX8_rest_173 rfl (lv_at hl 3 rfl) ?_
    refine lv_aload_n hx hb dX8_rest_174 rfl (lv_at hl 0 rfl) ?_
    refine m_get (k := 36) (C := RX8) (T := TX8) (N := 18) (ref := "LiftFactorsModel") (v := .ref (adr 42)) hx hb hi hts inX8_u hown hw (by decide) rfl 8 (by decide) q_1 rfl rfl dX8_rest_175 ?_
    refine lv_iload_n hx hb dX8_rest_178 rfl (lv_at hl 2 rfl) ?_
    replace h := bnd h
    obtain ⟨v23, e23, h⟩ := h
    refine m_iald hx hb hi hw e23 dX8_rest_179 ?_
    replace h := bnd h
    obtain ⟨v25, j27, h⟩ := h
    have kj : ∀ (ls : Array Slot) (H : Heap) (locs : List Loc), lv_has ls 10 [] → wH G A s.heap s (LL adr) (wf G adr v22) H locs → W p l e { frames := 1, cells := 0, slots := 0, locals := 26 } s m args below meth c H locs 0 0 Q (F0 m 195 ls [.int v25, .int a0, .ref (adr 36)]) := by
      intro ls H locs hl hw
      replace h := bnd h
      obtain ⟨v26, e26, h⟩ := h
      refine m_callVv (k := 36) (As := [.int a0, .int v25]) (rest := []) cx.fix hi hw (cc_X8_trim (l := l) (G := G) (sz := H.size) hi e26) (by decide) rfl rfl (w_cV 2 hts q_11 q_12 q_13 q_14 q_15 rfl rfl (by decide) (by decide)) hl.1 rfl (lv_room (Nat.le_of_ble_eq_true rfl)) dX8_rest_195 (fun H locs hw => ?_)
      cases h
      exact kr _ _ _ _ dX8_rest_198 hw
    clear h
    replace h := j27
    clear j27
    refine lv_icmp_ge (tgt := 187) hx hb dX8_rest_180 (by decide) (fun hc => ?_) (fun hc => ?_)
    · replace h := ite_t hc h
      refine lv_aload_n hx hb dX8_rest_187 rfl (lv_at hl 0 rfl) ?_
      refine m_get (k := 36) (C := RX8) (T := TX8) (N := 18) (ref := "LiftFactorsModel") (v := .ref (adr 42)) hx hb hi hts inX8_u hown hw (by decide) rfl 8 (by decide) q_1 rfl rfl dX8_rest_188 ?_
      refine lv_iload_n hx hb dX8_rest_191 rfl (lv_at hl 2 rfl) ?_
      replace h := bnd h
      obtain ⟨v24, e24, h⟩ := h
      refine m_iald hx hb hi hw e24 dX8_rest_192 ?_
      refine lv_iconst (v := (1 : Int32)) hx hb dX8_rest_193 (by decide) ?_
      refine lv_isub hx hb dX8_rest_194 ?_
      cases h
      exact kj _ _ _ (lv_sub hl [] rfl) hw
    · replace h := ite_f hc h
      refine lv_iload_n hx hb dX8_rest_183 rfl (lv_at hl 3 rfl) ?_
      refine lv_goto (tgt := 195) hx hb dX8_rest_184 (by decide) ?_
      cases h
      exact kj _ _ _ (lv_sub hl [] rfl) hw
theorem cc_X8_rest {l : Launch} {G : gG} {adr : Nat → Nat} {sz : Nat} (hi : adi adr) {n : Nat} {a0 : Int32} {a1 : Int32} {M M' : Mem} (h : f_X8_rest n a0 a1 M = some M') : mV l yX8_rest cX8_rest 10 none { frames := 1, cells := 0, slots := 0, locals := 26 } G adr [.ref (adr 36), .int a0, .int a1] M sz M' := by
  refine wEnter (by decide) (Nat.le_of_ble_eq_true rfl) ?_
  intro p e s m below meth c ls cx hinit hl hsz hw
  exact b_X8_rest cx hi h (fun pc ls H locs hd hw => w_vret (post := fun (u : Mem) => u = M') (lf := fun u => (LL adr, wf G adr u)) cx.1 cx.2.1 cx.2.2.1 cx.2.2.2.2.2.2 M' hw rfl hd) hl hw
theorem q_42 : Cond.methodLink RX8 89 yX8_rest ∈ uU := uU_in (by decide +kernel) (by decide +kernel)
theorem q_43 : Cond.instanceMethod yX8_rest ∈ uU := uU_in (by decide +kernel) (by decide +kernel)
theorem q_44 : Cond.selects yX8_rest.cls yX8_rest yX8_rest ∈ uU := uU_in (by decide +kernel) (by decide +kernel)
theorem q_45 : Cond.initialized yX8_rest.cls ∈ uU := uU_in (by decide +kernel) (by decide +kernel)
theorem q_46 : Cond.code yX8_rest cX8_rest 10 none ∈ uU := uU_in (by decide +kernel) (by decide +kernel)
def l_X8_multiply_40 (v5 : Int32) : Mem × Int32 → Option ((Mem) ⊕ (Mem × Int32)) := fun (M6, v7) =>
  if v5 < v7 then
    some (.inl M6)
  else
    Option.bind (stJ M6 41 ((192 : Int32) + v7) (0 : Int64)) fun v8 =>
    some (.inr (v8, v7 + 1))
def l_X8_multiply_87 (a0 : Int32) (a1 : Int32) (v12 : Int32) : Mem × Int32 → Option ((Mem) ⊕ (Mem × Int32)) := fun (M14, v15) =>
  Option.bind (ldI M14 42 a1) fun v16 =>
  if v16 < v15 then
    some (.inl M14)
  else
    Option.bind (ldJ M14 41 (((192 : Int32) + v12) + v15)) fun v17 =>
    Option.bind (ldJ M14 41 (((24 : Int32) * a0) + v12)) fun v18 =>
    Option.bind (ldJ M14 41 (((24 : Int32) * a1) + v15)) fun v19 =>
    Option.bind (f_X8_product v18 v19 M14) fun v20 =>
    Option.bind (
      if (v17 + v20) < (M14.1 36 9) then
        some (v17 + v20)
      else
        some ((v17 + v20) - (M14.1 36 9))) fun v21 =>
    Option.bind (stJ M14 41 (((192 : Int32) + v12) + v15) v21) fun v22 =>
    some (.inr (v22, v15 + 1))
def l_X8_multiply_68 (n : Nat) (a0 : Int32) (a1 : Int32) (v5 : Int32) : Mem × Int32 → Option ((Mem) ⊕ (Mem × Int32)) := fun (M11, v12) =>
  Option.bind (ldI M11 42 a0) fun v13 =>
  if v13 < v12 then
    some (.inl M11)
  else
    if v5 < 0 then
      some (.inl M11)
    else
      Option.bind (lpF (l_X8_multiply_87 a0 a1 v12) n (M11, (0 : Int32))) fun M25 =>
      some (.inr (M25, v12 + 1))
def f_X8_multiply (n : Nat) (a0 : Int32) (a1 : Int32) (a2 : Int32) (a3 : Int32) (M : Mem) : Option Mem :=
  Option.bind (ldI M 42 a0) fun v1 =>
  Option.bind (
    if v1 < 0 then
      some (-1 : Int32)
    else
      Option.bind (ldI M 42 a1) fun v2 =>
      if 0 ≤ v2 then
        Option.bind (ldI M 42 a0) fun v3 =>
        Option.bind (ldI M 42 a1) fun v4 =>
        some (v3 + v4)
      else
        some (-1 : Int32)) fun v5 =>
  Option.bind (lpF (l_X8_multiply_40 v5) n (M, (0 : Int32))) fun M10 =>
  Option.bind (lpF (l_X8_multiply_68 n a0 a1 v5) n (M10, (0 : Int32))) fun M27 =>
  Option.bind (f_X8_trim n (8 : Int32) v5 M27) fun v28 =>
  Option.bind (f_X8_rest n (8 : Int32) a2 v28) fun v29 =>
  Option.bind (f_X8_copy n (8 : Int32) a3 v29) fun v30 =>
  some v30
set_option maxRecDepth 100000 in
set_option maxHeartbeats 8000000 in
theorem b_X8_multiply {p : Program} {l : Launch} {e : Env} {s : State} {m : MethodId} {args : Array Value} {below : List Frame} {meth : Method} {c : Code} {Q : State → Prop} {G : gG} {A : Nat → Prop} {adr : Nat → Nat} (cx : cX p s m args meth c cX8_multiply none 10 yX8_multiply.cls) (hi : adi adr) {n : Nat} {a0 : Int32} {a1 : Int32} {a2 : Int32} {a3 : Int32} {M M' : Mem} 
    (h : f_X8_multiply n a0 a1 a2 a3 M = some M')
    (kr : ∀ (pc : Nat) (ls : Array Slot) (H : Heap) (locs : List Loc), decode cX8_multiply pc = .ok (.return_, 1) → wH G A s.heap s (LL adr) (wf G adr M') H locs → W p l e { frames := 2, cells := 0, slots := 0, locals := 55 } s m args below meth c H locs 0 0 Q (F0 m pc ls []))
    {ls : Array Slot} {H : Heap} {locs : List Loc} (hl : lv_has ls 10 [(0, .ref (adr 36)), (1, .int a0), (2, .int a1), (3, .int a2), (4, .int a3)]) (hw : wH G A s.heap s (LL adr) (wf G adr M) H locs) : W p l e { frames := 2, cells := 0, slots := 0, locals := 55 } s m args below meth c H locs 0 0 Q (F0 m 0 ls []) := by
  obtain ⟨hx, hb, -, -, hown, hts, -⟩ := id cx
  have hown : s.vm.findClass RX8 = some m.cls := hown
  unfold f_X8_multiply at h
  refine lv_aload_n hx hb dX8_multiply_0 rfl (lv_at hl 0 rfl) ?_
  refine m_get (k := 36) (C := RX8) (T := TX8) (N := 18) (ref := "LiftFactorsModel") (v := .ref (adr 42)) hx hb hi hts inX8_u hown hw (by decide) rfl 8 (by decide) q_1 rfl rfl dX8_multiply_1 ?_
  refine lv_iload_n hx hb dX8_multiply_4 rfl (lv_at hl 1 rfl) ?_
  replace h := bnd h
  obtain ⟨v1, e1, h⟩ := h
  refine m_iald hx hb hi hw e1 dX8_multiply_5 ?_
  replace h := bnd h
  obtain ⟨v5, j31, h⟩ := h
  have kj : ∀ (ls : Array Slot) (H : Heap) (locs : List Loc), lv_has ls 10 [(0, .ref (adr 36)), (1, .int a0), (2, .int a1), (3, .int a2), (4, .int a3)] → wH G A s.heap s (LL adr) (wf G adr M) H locs → W p l e { frames := 2, cells := 0, slots := 0, locals := 55 } s m args below meth c H locs 0 0 Q (F0 m 35 ls [.int v5]) := by
    intro ls H locs hl hw
    refine lv_istore (lv' := [(5, .int v5), (0, .ref (adr 36)), (1, .int a0), (2, .int a1), (3, .int a2), (4, .int a3)]) hx hb dX8_multiply_35 hl (by decide) rfl (fun ls hl => ?_)
    refine lv_iconst (v := (0 : Int32)) hx hb dX8_multiply_37 (by decide) ?_
    refine lv_istore (lv' := [(6, .int (0 : Int32)), (5, .int v5), (0, .ref (adr 36)), (1, .int a0), (2, .int a1), (3, .int a2), (4, .int a3)]) hx hb dX8_multiply_38 hl (by decide) rfl (fun ls hl => ?_)
    replace h := bnd h
    obtain ⟨M10, j9, h⟩ := h
    refine lp_W (Wst := fun (st : Mem × Int32) => ∀ (ls : Array Slot) (H : Heap) (locs : List Loc), lv_has ls 10 [(0, .ref (adr 36)), (1, .int a0), (2, .int a1), (3, .int a2), (4, .int a3), (5, .int v5), (6, .int st.2)] → wH G A s.heap s (LL adr) (wf G adr st.1) H locs → W p l e { frames := 2, cells := 0, slots := 0, locals := 55 } s m args below meth c H locs 0 0 Q (F0 m 40 ls [])) (fin := fun (r : Mem) => ∀ (ls : Array Slot) (H : Heap) (locs : List Loc), lv_has ls 10 [(0, .ref (adr 36)), (1, .int a0), (2, .int a1), (3, .int a2), (4, .int a3), (5, .int v5)] → wH G A s.heap s (LL adr) (wf G adr r) H locs → W p l e { frames := 2, cells := 0, slots := 0, locals := 55 } s m args below meth c H locs 0 0 Q (F0 m 65 ls [])) ?_ n _ _ j9 ?_ _ _ _ (lv_sub hl [2, 3, 4, 5, 6, 1, 0] rfl) hw
    · clear h j9 hw hl
      intro ⟨M6, v7⟩ x h k1 k2 ls H locs hl hw
      (try dsimp only at k1 k2 hl hw ⊢)
      unfold l_X8_multiply_40 at h
      (try dsimp only at h)
      refine lv_iload hx hb dX8_multiply_40 (lv_at hl 6 rfl) ?_
      refine lv_iload hx hb dX8_multiply_42 (lv_at hl 5 rfl) ?_
      refine lv_icmp_gt (tgt := 65) hx hb dX8_multiply_44 (by decide) (fun hc => ?_) (fun hc => ?_)
      · replace h := ite_t hc h
        cases h
        exact k1 _ rfl _ _ _ (lv_sub hl [0, 1, 2, 3, 4, 5] rfl) hw
      · replace h := ite_f hc h
        refine lv_aload_n hx hb dX8_multiply_47 rfl (lv_at hl 0 rfl) ?_
        refine m_get (k := 36) (C := RX8) (T := TX8) (N := 18) (ref := "LiftFactorsModel") (v := .ref (adr 41)) hx hb hi hts inX8_u hown hw (by decide) rfl 7 (by decide) q_0 rfl rfl dX8_multiply_48 ?_
        refine lv_sipush (v := (192 : Int32)) hx hb dX8_multiply_51 (by decide) ?_
        refine lv_iload hx hb dX8_multiply_54 (lv_at hl 6 rfl) ?_
        refine lv_iadd hx hb dX8_multiply_56 ?_
        refine lv_lconst (v := (0 : Int64)) hx hb dX8_multiply_57 (by decide) ?_
        replace h := bnd h
        obtain ⟨v8, e8, h⟩ := h
        refine m_last hx hb hi hw e8 dX8_multiply_58 (fun H locs hw => ?_)
        refine lv_iinc (v := v7 + 1) (lv' := [(6, .int (v7 + 1)), (0, .ref (adr 36)), (1, .int a0), (2, .int a1), (3, .int a2), (4, .int a3), (5, .int v5)]) hx hb dX8_multiply_59 hl (k := 6) rfl (inc_p _ (by decide)) (by decide) rfl (fun ls hl => ?_)
        refine lv_goto (tgt := 40) hx hb dX8_multiply_62 (by decide) ?_
        cases h
        exact k2 _ rfl _ _ _ (lv_sub hl [1, 2, 3, 4, 5, 6, 0] rfl) hw
    · clear hw hl
      intro ls H locs hl hw
      (try dsimp only at hl hw ⊢)
      refine lv_iconst (v := (0 : Int32)) hx hb dX8_multiply_65 (by decide) ?_
      refine lv_istore (lv' := [(6, .int (0 : Int32)), (0, .ref (adr 36)), (1, .int a0), (2, .int a1), (3, .int a2), (4, .int a3), (5, .int v5)]) hx hb dX8_multiply_66 hl (by decide) rfl (fun ls hl => ?_)
      replace h := bnd h
      obtain ⟨M27, j26, h⟩ := h
      refine lp_W (Wst := fun (st : Mem × Int32) => ∀ (ls : Array Slot) (H : Heap) (locs : List Loc), lv_has ls 10 [(0, .ref (adr 36)), (1, .int a0), (2, .int a1), (3, .int a2), (4, .int a3), (5, .int v5), (6, .int st.2)] → wH G A s.heap s (LL adr) (wf G adr st.1) H locs → W p l e { frames := 2, cells := 0, slots := 0, locals := 55 } s m args below meth c H locs 0 0 Q (F0 m 68 ls [])) (fin := fun (r : Mem) => ∀ (ls : Array Slot) (H : Heap) (locs : List Loc), lv_has ls 10 [(0, .ref (adr 36)), (3, .int a2), (4, .int a3), (5, .int v5)] → wH G A s.heap s (LL adr) (wf G adr r) H locs → W p l e { frames := 2, cells := 0, slots := 0, locals := 55 } s m args below meth c H locs 0 0 Q (F0 m 191 ls [])) ?_ n _ _ j26 ?_ _ _ _ (lv_sub hl [1, 2, 3, 4, 5, 6, 0] rfl) hw
      · clear h j26 hw hl
        intro ⟨M11, v12⟩ x h k1 k2 ls H locs hl hw
        (try dsimp only at k1 k2 hl hw ⊢)
        unfold l_X8_multiply_68 at h
        (try dsimp only at h)
        refine lv_iload hx hb dX8_multiply_68 (lv_at hl 6 rfl) ?_
        refine lv_aload_n hx hb dX8_multiply_70 rfl (lv_at hl 0 rfl) ?_
        refine m_get (k := 36) (C := RX8) (T := TX8) (N := 18) (ref := "LiftFactorsModel") (v := .ref (adr 42)) hx hb hi hts inX8_u hown hw (by decide) rfl 8 (by decide) q_1 rfl rfl dX8_multiply_71 ?_
        refine lv_iload_n hx hb dX8_multiply_74 rfl (lv_at hl 1 rfl) ?_
        replace h := bnd h
        obtain ⟨v13, e13, h⟩ := h
        refine m_iald hx hb hi hw e13 dX8_multiply_75 ?_
        refine lv_icmp_gt (tgt := 191) hx hb dX8_multiply_76 (by decide) (fun hc => ?_) (fun hc => ?_)
        · replace h := ite_t hc h
          cases h
          exact k1 _ rfl _ _ _ (lv_sub hl [0, 3, 4, 5] rfl) hw
        · replace h := ite_f hc h
          refine lv_iload hx hb dX8_multiply_79 (lv_at hl 5 rfl) ?_
          refine lv_if_lt (tgt := 191) hx hb dX8_multiply_81 (by decide) (fun hc => ?_) (fun hc => ?_)
          · replace h := ite_t hc h
            cases h
            exact k1 _ rfl _ _ _ (lv_sub hl [0, 3, 4, 5] rfl) hw
          · replace h := ite_f hc h
            refine lv_iconst (v := (0 : Int32)) hx hb dX8_multiply_84 (by decide) ?_
            refine lv_istore (lv' := [(7, .int (0 : Int32)), (0, .ref (adr 36)), (1, .int a0), (2, .int a1), (3, .int a2), (4, .int a3), (5, .int v5), (6, .int v12)]) hx hb dX8_multiply_85 hl (by decide) rfl (fun ls hl => ?_)
            replace h := bnd h
            obtain ⟨M25, j24, h⟩ := h
            refine lp_W (Wst := fun (st : Mem × Int32) => ∀ (ls : Array Slot) (H : Heap) (locs : List Loc), lv_has ls 10 [(0, .ref (adr 36)), (1, .int a0), (2, .int a1), (3, .int a2), (4, .int a3), (5, .int v5), (6, .int v12), (7, .int st.2)] → wH G A s.heap s (LL adr) (wf G adr st.1) H locs → W p l e { frames := 2, cells := 0, slots := 0, locals := 55 } s m args below meth c H locs 0 0 Q (F0 m 87 ls [])) (fin := fun (r : Mem) => ∀ (ls : Array Slot) (H : Heap) (locs : List Loc), lv_has ls 10 [(0, .ref (adr 36)), (1, .int a0), (2, .int a1), (3, .int a2), (4, .int a3), (5, .int v5), (6, .int v12)] → wH G A s.heap s (LL adr) (wf G adr r) H locs → W p l e { frames := 2, cells := 0, slots := 0, locals := 55 } s m args below meth c H locs 0 0 Q (F0 m 185 ls [])) ?_ n _ _ j24 ?_ _ _ _ (lv_sub hl [1, 2, 3, 4, 5, 6, 7, 0] rfl) hw
            · clear h j24 hw hl
              intro ⟨M14, v15⟩ x h k1 k2 ls H locs hl hw
              (try dsimp only at k1 k2 hl hw ⊢)
              unfold l_X8_multiply_87 at h
              (try dsimp only at h)
              refine lv_iload hx hb dX8_multiply_87 (lv_at hl 7 rfl) ?_
              refine lv_aload_n hx hb dX8_multiply_89 rfl (lv_at hl 0 rfl) ?_
              refine m_get (k := 36) (C := RX8) (T := TX8) (N := 18) (ref := "LiftFactorsModel") (v := .ref (adr 42)) hx hb hi hts inX8_u hown hw (by decide) rfl 8 (by decide) q_1 rfl rfl dX8_multiply_90 ?_
              refine lv_iload_n hx hb dX8_multiply_93 rfl (lv_at hl 2 rfl) ?_
              replace h := bnd h
              obtain ⟨v16, e16, h⟩ := h
              refine m_iald hx hb hi hw e16 dX8_multiply_94 ?_
              refine lv_icmp_gt (tgt := 185) hx hb dX8_multiply_95 (by decide) (fun hc => ?_) (fun hc => ?_)
              · replace h := ite_t hc h
                cases h
                exact k1 _ rfl _ _ _ (lv_sub hl [0, 1, 2, 3, 4, 5, 6] rfl) hw
              · replace h := ite_f hc h
                refine lv_aload_n hx hb dX8_multiply_98 rfl (lv_at hl 0 rfl) ?_
                refine m_get (k := 36) (C := RX8) (T := TX8) (N := 18) (ref := "LiftFactorsModel") (v := .ref (adr 41)) hx hb hi hts inX8_u hown hw (by decide) rfl 7 (by decide) q_0 rfl rfl dX8_multiply_99 ?_
                refine lv_sipush (v := (192 : Int32)) hx hb dX8_multiply_102 (by decide) ?_
                refine lv_iload hx hb dX8_multiply_105 (lv_at hl 6 rfl) ?_
                refine lv_iadd hx hb dX8_multiply_107 ?_
                refine lv_iload hx hb dX8_multiply_108 (lv_at hl 7 rfl) ?_
                refine lv_iadd hx hb dX8_multiply_110 ?_
                replace h := bnd h
                obtain ⟨v17, e17, h⟩ := h
                refine m_lald hx hb hi hw e17 dX8_multiply_111 ?_
                refine lv_aload_n hx hb dX8_multiply_112 rfl (lv_at hl 0 rfl) ?_
                refine lv_aload_n hx hb dX8_multiply_113 rfl (lv_at hl 0 rfl) ?_
                refine m_get (k := 36) (C := RX8) (T := TX8) (N := 18) (ref := "LiftFactorsModel") (v := .ref (adr 41)) hx hb hi hts inX8_u hown hw (by decide) rfl 7 (by decide) q_0 rfl rfl dX8_multiply_114 ?_
                refine lv_bipush (v := (24 : Int32)) hx hb dX8_multiply_117 (by decide) ?_
                refine lv_iload_n hx hb dX8_multiply_119 rfl (lv_at hl 1 rfl) ?_
                refine lv_imul hx hb dX8_multiply_120 ?_
                refine lv_iload hx hb dX8_multiply_121 (lv_at hl 6 rfl) ?_
                refine lv_iadd hx hb dX8_multiply_123 ?_
                replace h := bnd h
                obtain ⟨v18, e18, h⟩ := h
                refine m_lald hx hb hi hw e18 dX8_multiply_124 ?_
                refine lv_aload_n hx hb dX8_multiply_125 rfl (lv_at hl 0 rfl) ?_
                refine m_get (k := 36) (C := RX8) (T := TX8) (N := 18) (ref := "LiftFactorsModel") (v := .ref (adr 41)) hx hb hi hts inX8_u hown hw (by decide) rfl 7 (by decide) q_0 rfl rfl dX8_multiply_126 ?_
                refine lv_bipush (v := (24 : Int32)) hx hb dX8_multiply_129 (by decide) ?_
                refine lv_iload_n hx hb dX8_multiply_131 rfl (lv_at hl 2 rfl) ?_
                refine lv_imul hx hb dX8_multiply_132 ?_
                refine lv_iload hx hb dX8_multiply_133 (lv_at hl 7 rfl) ?_
                refine lv_iadd hx hb dX8_multiply_135 ?_
                replace h := bnd h
                obtain ⟨v19, e19, h⟩ := h
                refine m_lald hx hb hi hw e19 dX8_multiply_136 ?_
                replace h := bnd h
                obtain ⟨v20, e20, h⟩ := h
                refine m_callVl (k := 36) (As := [.long v18, .long v19]) (rest := [.long v17]) cx.fix hi hw (cc_X8_product (l := l) (G := G) (sz := H.size) hi e20) (by decide) rfl rfl (w_cV 2 hts q_31 q_32 q_33 q_34 q_35 rfl rfl (by decide) (by decide)) hl.1 rfl (lv_room (Nat.le_of_ble_eq_true rfl)) dX8_multiply_137 (fun H locs hw => ?_)
                refine lv_ladd hx hb dX8_multiply_140 ?_
                refine lv_lstore (lv' := [(8, .long (v17 + v20)), (0, .ref (adr 36)), (1, .int a0), (2, .int a1), (3, .int a2), (4, .int a3), (5, .int v5), (6, .int v12), (7, .int v15)]) hx hb dX8_multiply_141 hl (by decide) rfl (fun ls hl => ?_)
                refine lv_aload_n hx hb dX8_multiply_143 rfl (lv_at hl 1 rfl) ?_
                refine m_get (k := 36) (C := RX8) (T := TX8) (N := 18) (ref := "LiftFactorsModel") (v := .ref (adr 41)) hx hb hi hts inX8_u hown hw (by decide) rfl 7 (by decide) q_0 rfl rfl dX8_multiply_144 ?_
                refine lv_sipush (v := (192 : Int32)) hx hb dX8_multiply_147 (by decide) ?_
                refine lv_iload hx hb dX8_multiply_150 (lv_at hl 7 rfl) ?_
                refine lv_iadd hx hb dX8_multiply_152 ?_
                refine lv_iload hx hb dX8_multiply_153 (lv_at hl 8 rfl) ?_
                refine lv_iadd hx hb dX8_multiply_155 ?_
                refine lv_lload hx hb dX8_multiply_156 (lv_at hl 0 rfl) ?_
                refine lv_aload_n hx hb dX8_multiply_158 rfl (lv_at hl 1 rfl) ?_
                refine m_get (k := 36) (C := RX8) (T := TX8) (N := 18) (ref := "LiftFactorsModel") (v := .long (M14.1 36 9)) hx hb hi hts inX8_u hown hw (by decide) rfl 9 (by decide) q_29 rfl rfl dX8_multiply_159 ?_
                replace h := bnd h
                obtain ⟨v21, j23, h⟩ := h
                have kj : ∀ (ls : Array Slot) (H : Heap) (locs : List Loc), lv_has ls 10 [(0, .ref (adr 36)), (1, .int a0), (2, .int a1), (3, .int a2), (4, .int a3), (5, .int v5), (6, .int v12), (7, .int v15)] → wH G A s.heap s (LL adr) (wf G adr M14) H locs → W p l e { frames := 2, cells := 0, slots := 0, locals := 55 } s m args below meth c H locs 0 0 Q (F0 m 178 ls [.long v21, .int (((192 : Int32) + v12) + v15), .ref (adr 41)]) := by
                  intro ls H locs hl hw
                  replace h := bnd h
                  obtain ⟨v22, e22, h⟩ := h
                  refine m_last hx hb hi hw e22 dX8_multiply_178 (fun H locs hw => ?_)
                  refine lv_iinc (v := v15 + 1) (lv' := [(7, .int (v15 + 1)), (0, .ref (adr 36)), (1, .int a0), (2, .int a1), (3, .int a2), (4, .int a3), (5, .int v5), (6, .int v12)]) hx hb dX8_multiply_179 hl (k := 7) rfl (inc_p _ (by decide)) (by decide) rfl (fun ls hl => ?_)
                  refine lv_goto (tgt := 87) hx hb dX8_multiply_182 (by decide) ?_
                  cases h
                  exact k2 _ rfl _ _ _ (lv_sub hl [1, 2, 3, 4, 5, 6, 7, 0] rfl) hw
                clear h
                replace h := j23
                clear j23
                refine m_lcmp_lt (tgt := 176) hx hb dX8_multiply_162 dX8_multiply_163 (by decide) (fun hc => ?_) (fun hc => ?_)
                · replace h := ite_t hc h
                  refine lv_lload hx hb dX8_multiply_176 (lv_at hl 0 rfl) ?_
                  cases h
                  exact kj _ _ _ (lv_sub hl [1, 2, 3, 4, 5, 6, 7, 8] rfl) hw
                · replace h := ite_f hc h
                  refine lv_lload hx hb dX8_multiply_166 (lv_at hl 0 rfl) ?_
                  refine lv_aload_n hx hb dX8_multiply_168 rfl (lv_at hl 1 rfl) ?_
                  refine m_get (k := 36) (C := RX8) (T := TX8) (N := 18) (ref := "LiftFactorsModel") (v := .long (M14.1 36 9)) hx hb hi hts inX8_u hown hw (by decide) rfl 9 (by decide) q_29 rfl rfl dX8_multiply_169 ?_
                  refine lv_lsub hx hb dX8_multiply_172 ?_
                  refine lv_goto (tgt := 178) hx hb dX8_multiply_173 (by decide) ?_
                  cases h
                  exact kj _ _ _ (lv_sub hl [1, 2, 3, 4, 5, 6, 7, 8] rfl) hw
            · clear hw hl
              intro ls H locs hl hw
              (try dsimp only at hl hw ⊢)
              refine lv_iinc (v := v12 + 1) (lv' := [(6, .int (v12 + 1)), (0, .ref (adr 36)), (1, .int a0), (2, .int a1), (3, .int a2), (4, .int a3), (5, .int v5)]) hx hb dX8_multiply_185 hl (k := 6) rfl (inc_p _ (by decide)) (by decide) rfl (fun ls hl => ?_)
              refine lv_goto (tgt := 68) hx hb dX8_multiply_188 (by decide) ?_
              cases h
              exact k2 _ rfl _ _ _ (lv_sub hl [1, 2, 3, 4, 5, 6, 0] rfl) hw
      · clear hw hl
        intro ls H locs hl hw
        (try dsimp only at hl hw ⊢)
        refine lv_aload_n hx hb dX8_multiply_191 rfl (lv_at hl 0 rfl) ?_
        refine lv_bipush (v := (8 : Int32)) hx hb dX8_multiply_192 (by decide) ?_
        refine lv_iload hx hb dX8_multiply_194 (lv_at hl 3 rfl) ?_
        replace h := bnd h
        obtain ⟨v28, e28, h⟩ := h
        refine m_callVv (k := 36) (As := [.int (8 : Int32), .int v5]) (rest := []) cx.fix hi hw (cc_X8_trim (l := l) (G := G) (sz := H.size) hi e28) (by decide) rfl rfl (w_cV 2 hts q_11 q_12 q_13 q_14 q_15 rfl rfl (by decide) (by decide)) hl.1 rfl (lv_room (Nat.le_of_ble_eq_true rfl)) dX8_multiply_196 (fun H locs hw => ?_)
        refine lv_aload_n hx hb dX8_multiply_199 rfl (lv_at hl 0 rfl) ?_
        refine lv_bipush (v := (8 : Int32)) hx hb dX8_multiply_200 (by decide) ?_
        refine lv_iload_n hx hb dX8_multiply_202 rfl (lv_at hl 1 rfl) ?_
        replace h := bnd h
        obtain ⟨v29, e29, h⟩ := h
        refine m_callVv (k := 36) (As := [.int (8 : Int32), .int a2]) (rest := []) cx.fix hi hw (cc_X8_rest (l := l) (G := G) (sz := H.size) hi e29) (by decide) rfl rfl (w_cV 2 hts q_42 q_43 q_44 q_45 q_46 rfl rfl (by decide) (by decide)) hl.1 rfl (lv_room (Nat.le_of_ble_eq_true rfl)) dX8_multiply_203 (fun H locs hw => ?_)
        refine lv_aload_n hx hb dX8_multiply_206 rfl (lv_at hl 0 rfl) ?_
        refine lv_bipush (v := (8 : Int32)) hx hb dX8_multiply_207 (by decide) ?_
        refine lv_iload hx hb dX8_multiply_209 (lv_at hl 2 rfl) ?_
        replace h := bnd h
        obtain ⟨v30, e30, h⟩ := h
        refine m_callVv (k := 36) (As := [.int (8 : Int32), .int a3]) (rest := []) cx.fix hi hw (cc_X8_copy (l := l) (G := G) (sz := H.size) hi e30) (by decide) rfl rfl (w_cV 2 hts q_24 q_25 q_26 q_27 q_28 rfl rfl (by decide) (by decide)) hl.1 rfl (lv_room (Nat.le_of_ble_eq_true rfl)) dX8_multiply_211 (fun H locs hw => ?_)
        cases h
        exact kr _ _ _ _ dX8_multiply_214 hw
  clear h
  replace h := j31
  clear j31
  refine lv_if_lt (tgt := 18) hx hb dX8_multiply_6 (by decide) (fun hc => ?_) (fun hc => ?_)
  · replace h := ite_t hc h
    refine lv_iconst (v := (-1 : Int32)) hx hb dX8_multiply_18 (by decide) ?_
    refine lv_goto (tgt := 35) hx hb dX8_multiply_19 (by decide) ?_
    cases h
    exact kj _ _ _ (lv_sub hl [0, 1, 2, 3, 4] rfl) hw
  · replace h := ite_f hc h
    refine lv_aload_n hx hb dX8_multiply_9 rfl (lv_at hl 0 rfl) ?_
    refine m_get (k := 36) (C := RX8) (T := TX8) (N := 18) (ref := "LiftFactorsModel") (v := .ref (adr 42)) hx hb hi hts inX8_u hown hw (by decide) rfl 8 (by decide) q_1 rfl rfl dX8_multiply_10 ?_
    refine lv_iload_n hx hb dX8_multiply_13 rfl (lv_at hl 2 rfl) ?_
    replace h := bnd h
    obtain ⟨v2, e2, h⟩ := h
    refine m_iald hx hb hi hw e2 dX8_multiply_14 ?_
    refine lv_if_ge (tgt := 22) hx hb dX8_multiply_15 (by decide) (fun hc => ?_) (fun hc => ?_)
    · replace h := ite_t hc h
      refine lv_aload_n hx hb dX8_multiply_22 rfl (lv_at hl 0 rfl) ?_
      refine m_get (k := 36) (C := RX8) (T := TX8) (N := 18) (ref := "LiftFactorsModel") (v := .ref (adr 42)) hx hb hi hts inX8_u hown hw (by decide) rfl 8 (by decide) q_1 rfl rfl dX8_multiply_23 ?_
      refine lv_iload_n hx hb dX8_multiply_26 rfl (lv_at hl 1 rfl) ?_
      replace h := bnd h
      obtain ⟨v3, e3, h⟩ := h
      refine m_iald hx hb hi hw e3 dX8_multiply_27 ?_
      refine lv_aload_n hx hb dX8_multiply_28 rfl (lv_at hl 0 rfl) ?_
      refine m_get (k := 36) (C := RX8) (T := TX8) (N := 18) (ref := "LiftFactorsModel") (v := .ref (adr 42)) hx hb hi hts inX8_u hown hw (by decide) rfl 8 (by decide) q_1 rfl rfl dX8_multiply_29 ?_
      refine lv_iload_n hx hb dX8_multiply_32 rfl (lv_at hl 2 rfl) ?_
      replace h := bnd h
      obtain ⟨v4, e4, h⟩ := h
      refine m_iald hx hb hi hw e4 dX8_multiply_33 ?_
      refine lv_iadd hx hb dX8_multiply_34 ?_
      cases h
      exact kj _ _ _ (lv_sub hl [0, 1, 2, 3, 4] rfl) hw
    · replace h := ite_f hc h
      refine lv_iconst (v := (-1 : Int32)) hx hb dX8_multiply_18 (by decide) ?_
      refine lv_goto (tgt := 35) hx hb dX8_multiply_19 (by decide) ?_
      cases h
      exact kj _ _ _ (lv_sub hl [0, 1, 2, 3, 4] rfl) hw
theorem cc_X8_multiply {l : Launch} {G : gG} {adr : Nat → Nat} {sz : Nat} (hi : adi adr) {n : Nat} {a0 : Int32} {a1 : Int32} {a2 : Int32} {a3 : Int32} {M M' : Mem} (h : f_X8_multiply n a0 a1 a2 a3 M = some M') : mV l yX8_multiply cX8_multiply 10 none { frames := 2, cells := 0, slots := 0, locals := 55 } G adr [.ref (adr 36), .int a0, .int a1, .int a2, .int a3] M sz M' := by
  refine wEnter (by decide) (Nat.le_of_ble_eq_true rfl) ?_
  intro p e s m below meth c ls cx hinit hl hsz hw
  exact b_X8_multiply cx hi h (fun pc ls H locs hd hw => w_vret (post := fun (u : Mem) => u = M') (lf := fun u => (LL adr, wf G adr u)) cx.1 cx.2.1 cx.2.2.1 cx.2.2.2.2.2.2 M' hw rfl hd) hl hw
theorem q_47 : Cond.methodLink RX8 92 yX8_constant ∈ uU := uU_in (by decide +kernel) (by decide +kernel)
theorem q_48 : Cond.instanceMethod yX8_constant ∈ uU := uU_in (by decide +kernel) (by decide +kernel)
theorem q_49 : Cond.selects yX8_constant.cls yX8_constant yX8_constant ∈ uU := uU_in (by decide +kernel) (by decide +kernel)
theorem q_50 : Cond.initialized yX8_constant.cls ∈ uU := uU_in (by decide +kernel) (by decide +kernel)
theorem q_51 : Cond.code yX8_constant cX8_constant 4 none ∈ uU := uU_in (by decide +kernel) (by decide +kernel)
theorem q_52 : Cond.methodLink RX8 96 yX8_multiply ∈ uU := uU_in (by decide +kernel) (by decide +kernel)
theorem q_53 : Cond.instanceMethod yX8_multiply ∈ uU := uU_in (by decide +kernel) (by decide +kernel)
theorem q_54 : Cond.selects yX8_multiply.cls yX8_multiply yX8_multiply ∈ uU := uU_in (by decide +kernel) (by decide +kernel)
theorem q_55 : Cond.initialized yX8_multiply.cls ∈ uU := uU_in (by decide +kernel) (by decide +kernel)
theorem q_56 : Cond.code yX8_multiply cX8_multiply 10 none ∈ uU := uU_in (by decide +kernel) (by decide +kernel)
def l_X8_raise_39 (n : Nat) (a2 : Int32) (a3 : Int32) : Mem × Int64 → Option ((Mem) ⊕ (Mem × Int64)) := fun (M6, v7) =>
  if v7 ≤ (0 : Int64) then
    some (.inl M6)
  else
    Option.bind (
      if (v7 &&& (1 : Int64)) = (1 : Int64) then
        Option.bind (f_X8_multiply n a3 (9 : Int32) a2 a3 M6) fun v8 =>
        some v8
      else
        some M6) fun M9 =>
    Option.bind (
      if v7 ≤ (1 : Int64) then
        some M9
      else
        Option.bind (f_X8_multiply n (9 : Int32) (9 : Int32) a2 (9 : Int32) M9) fun v10 =>
        some v10) fun M11 =>
    some (.inr (M11, v7 >>> (1 : Int64)))
def f_X8_raise (n : Nat) (a0 : Int32) (a1 : Int64) (a2 : Int32) (a3 : Int32) (M : Mem) : Option Mem :=
  Option.bind (f_X8_copy n a0 (9 : Int32) M) fun v1 =>
  Option.bind (f_X8_rest n (9 : Int32) a2 v1) fun v2 =>
  Option.bind (ldI v2 42 a2) fun v3 =>
  Option.bind (
    if v3 = 0 then
      some (0 : Int64)
    else
      some (1 : Int64)) fun v4 =>
  Option.bind (f_X8_constant a3 v4 v2) fun v5 =>
  Option.bind (lpF (l_X8_raise_39 n a2 a3) n (v5, a1)) fun M15 =>
  some M15
set_option maxRecDepth 100000 in
set_option maxHeartbeats 8000000 in
theorem b_X8_raise {p : Program} {l : Launch} {e : Env} {s : State} {m : MethodId} {args : Array Value} {below : List Frame} {meth : Method} {c : Code} {Q : State → Prop} {G : gG} {A : Nat → Prop} {adr : Nat → Nat} (cx : cX p s m args meth c cX8_raise none 8 yX8_raise.cls) (hi : adi adr) {n : Nat} {a0 : Int32} {a1 : Int64} {a2 : Int32} {a3 : Int32} {M M' : Mem} 
    (h : f_X8_raise n a0 a1 a2 a3 M = some M')
    (kr : ∀ (pc : Nat) (ls : Array Slot) (H : Heap) (locs : List Loc), decode cX8_raise pc = .ok (.return_, 1) → wH G A s.heap s (LL adr) (wf G adr M') H locs → W p l e { frames := 3, cells := 0, slots := 0, locals := 84 } s m args below meth c H locs 0 0 Q (F0 m pc ls []))
    {ls : Array Slot} {H : Heap} {locs : List Loc} (hl : lv_has ls 8 [(0, .ref (adr 36)), (1, .int a0), (2, .long a1), (4, .int a2), (5, .int a3)]) (hw : wH G A s.heap s (LL adr) (wf G adr M) H locs) : W p l e { frames := 3, cells := 0, slots := 0, locals := 84 } s m args below meth c H locs 0 0 Q (F0 m 0 ls []) := by
  obtain ⟨hx, hb, -, -, hown, hts, -⟩ := id cx
  have hown : s.vm.findClass RX8 = some m.cls := hown
  unfold f_X8_raise at h
  refine lv_aload_n hx hb dX8_raise_0 rfl (lv_at hl 0 rfl) ?_
  refine lv_iload_n hx hb dX8_raise_1 rfl (lv_at hl 1 rfl) ?_
  refine lv_bipush (v := (9 : Int32)) hx hb dX8_raise_2 (by decide) ?_
  replace h := bnd h
  obtain ⟨v1, e1, h⟩ := h
  refine m_callVv (k := 36) (As := [.int a0, .int (9 : Int32)]) (rest := []) cx.fix hi hw (cc_X8_copy (l := l) (G := G) (sz := H.size) hi e1) (by decide) rfl rfl (w_cV 2 hts q_24 q_25 q_26 q_27 q_28 rfl rfl (by decide) (by decide)) hl.1 rfl (lv_room (Nat.le_of_ble_eq_true rfl)) dX8_raise_4 (fun H locs hw => ?_)
  refine lv_aload_n hx hb dX8_raise_7 rfl (lv_at hl 0 rfl) ?_
  refine lv_bipush (v := (9 : Int32)) hx hb dX8_raise_8 (by decide) ?_
  refine lv_iload hx hb dX8_raise_10 (lv_at hl 3 rfl) ?_
  replace h := bnd h
  obtain ⟨v2, e2, h⟩ := h
  refine m_callVv (k := 36) (As := [.int (9 : Int32), .int a2]) (rest := []) cx.fix hi hw (cc_X8_rest (l := l) (G := G) (sz := H.size) hi e2) (by decide) rfl rfl (w_cV 2 hts q_42 q_43 q_44 q_45 q_46 rfl rfl (by decide) (by decide)) hl.1 rfl (lv_room (Nat.le_of_ble_eq_true rfl)) dX8_raise_12 (fun H locs hw => ?_)
  refine lv_aload_n hx hb dX8_raise_15 rfl (lv_at hl 0 rfl) ?_
  refine lv_iload hx hb dX8_raise_16 (lv_at hl 4 rfl) ?_
  refine lv_aload_n hx hb dX8_raise_18 rfl (lv_at hl 0 rfl) ?_
  refine m_get (k := 36) (C := RX8) (T := TX8) (N := 18) (ref := "LiftFactorsModel") (v := .ref (adr 42)) hx hb hi hts inX8_u hown hw (by decide) rfl 8 (by decide) q_1 rfl rfl dX8_raise_19 ?_
  refine lv_iload hx hb dX8_raise_22 (lv_at hl 3 rfl) ?_
  replace h := bnd h
  obtain ⟨v3, e3, h⟩ := h
  refine m_iald hx hb hi hw e3 dX8_raise_24 ?_
  replace h := bnd h
  obtain ⟨v4, j16, h⟩ := h
  have kj : ∀ (ls : Array Slot) (H : Heap) (locs : List Loc), lv_has ls 8 [(0, .ref (adr 36)), (2, .long a1), (4, .int a2), (5, .int a3)] → wH G A s.heap s (LL adr) (wf G adr v2) H locs → W p l e { frames := 3, cells := 0, slots := 0, locals := 84 } s m args below meth c H locs 0 0 Q (F0 m 33 ls [.long v4, .int a3, .ref (adr 36)]) := by
    intro ls H locs hl hw
    replace h := bnd h
    obtain ⟨v5, e5, h⟩ := h
    refine m_callVv (k := 36) (As := [.int a3, .long v4]) (rest := []) cx.fix hi hw (cc_X8_constant (l := l) (G := G) (sz := H.size) hi e5) (by decide) rfl rfl (w_cV 2 hts q_47 q_48 q_49 q_50 q_51 rfl rfl (by decide) (by decide)) hl.1 rfl (lv_room (Nat.le_of_ble_eq_true rfl)) dX8_raise_33 (fun H locs hw => ?_)
    refine lv_lload_n hx hb dX8_raise_36 rfl (lv_at hl 1 rfl) ?_
    refine lv_lstore (lv' := [(6, .long a1), (0, .ref (adr 36)), (2, .long a1), (4, .int a2), (5, .int a3)]) hx hb dX8_raise_37 hl (by decide) rfl (fun ls hl => ?_)
    replace h := bnd h
    obtain ⟨M15, j14, h⟩ := h
    refine lp_W (Wst := fun (st : Mem × Int64) => ∀ (ls : Array Slot) (H : Heap) (locs : List Loc), lv_has ls 8 [(0, .ref (adr 36)), (4, .int a2), (5, .int a3), (6, .long st.2)] → wH G A s.heap s (LL adr) (wf G adr st.1) H locs → W p l e { frames := 3, cells := 0, slots := 0, locals := 84 } s m args below meth c H locs 0 0 Q (F0 m 39 ls [])) (fin := fun (r : Mem) => ∀ (ls : Array Slot) (H : Heap) (locs : List Loc), lv_has ls 8 [] → wH G A s.heap s (LL adr) (wf G adr r) H locs → W p l e { frames := 3, cells := 0, slots := 0, locals := 84 } s m args below meth c H locs 0 0 Q (F0 m 95 ls [])) ?_ n _ _ j14 ?_ _ _ _ (lv_sub hl [1, 3, 4, 0] rfl) hw
    · clear h j14 hw hl
      intro ⟨M6, v7⟩ x h k1 k2 ls H locs hl hw
      (try dsimp only at k1 k2 hl hw ⊢)
      unfold l_X8_raise_39 at h
      (try dsimp only at h)
      refine lv_lload hx hb dX8_raise_39 (lv_at hl 3 rfl) ?_
      refine lv_lconst (v := (0 : Int64)) hx hb dX8_raise_41 (by decide) ?_
      refine m_lcmp_le (tgt := 95) hx hb dX8_raise_42 dX8_raise_43 (by decide) (fun hc => ?_) (fun hc => ?_)
      · replace h := ite_t hc h
        cases h
        exact k1 _ rfl _ _ _ (lv_sub hl [] rfl) hw
      · replace h := ite_f hc h
        refine lv_lload hx hb dX8_raise_46 (lv_at hl 3 rfl) ?_
        refine lv_lconst (v := (1 : Int64)) hx hb dX8_raise_48 (by decide) ?_
        refine lv_land hx hb dX8_raise_49 ?_
        refine lv_lconst (v := (1 : Int64)) hx hb dX8_raise_50 (by decide) ?_
        replace h := bnd h
        obtain ⟨M9, j13, h⟩ := h
        have kj : ∀ (ls : Array Slot) (H : Heap) (locs : List Loc), lv_has ls 8 [(0, .ref (adr 36)), (4, .int a2), (5, .int a3), (6, .long v7)] → wH G A s.heap s (LL adr) (wf G adr M9) H locs → W p l e { frames := 3, cells := 0, slots := 0, locals := 84 } s m args below meth c H locs 0 0 Q (F0 m 67 ls []) := by
          intro ls H locs hl hw
          refine lv_lload hx hb dX8_raise_67 (lv_at hl 3 rfl) ?_
          refine lv_lconst (v := (1 : Int64)) hx hb dX8_raise_69 (by decide) ?_
          replace h := bnd h
          obtain ⟨M11, j12, h⟩ := h
          have kj : ∀ (ls : Array Slot) (H : Heap) (locs : List Loc), lv_has ls 8 [(0, .ref (adr 36)), (4, .int a2), (5, .int a3), (6, .long v7)] → wH G A s.heap s (LL adr) (wf G adr M11) H locs → W p l e { frames := 3, cells := 0, slots := 0, locals := 84 } s m args below meth c H locs 0 0 Q (F0 m 86 ls []) := by
            intro ls H locs hl hw
            refine lv_lload hx hb dX8_raise_86 (lv_at hl 3 rfl) ?_
            refine lv_iconst (v := (1 : Int32)) hx hb dX8_raise_88 (by decide) ?_
            refine lv_lshr (v := v7 >>> (1 : Int64)) hx hb dX8_raise_89 (shr_p _ (by decide)) ?_
            refine lv_lstore (lv' := [(6, .long (v7 >>> (1 : Int64))), (0, .ref (adr 36)), (4, .int a2), (5, .int a3)]) hx hb dX8_raise_90 hl (by decide) rfl (fun ls hl => ?_)
            refine lv_goto (tgt := 39) hx hb dX8_raise_92 (by decide) ?_
            cases h
            exact k2 _ rfl _ _ _ (lv_sub hl [1, 2, 3, 0] rfl) hw
          clear h
          replace h := j12
          clear j12
          refine m_lcmp_le (tgt := 86) hx hb dX8_raise_70 dX8_raise_71 (by decide) (fun hc => ?_) (fun hc => ?_)
          · replace h := ite_t hc h
            cases h
            exact kj _ _ _ (lv_sub hl [0, 1, 2, 3] rfl) hw
          · replace h := ite_f hc h
            refine lv_aload_n hx hb dX8_raise_74 rfl (lv_at hl 0 rfl) ?_
            refine lv_bipush (v := (9 : Int32)) hx hb dX8_raise_75 (by decide) ?_
            refine lv_bipush (v := (9 : Int32)) hx hb dX8_raise_77 (by decide) ?_
            refine lv_iload hx hb dX8_raise_79 (lv_at hl 1 rfl) ?_
            refine lv_bipush (v := (9 : Int32)) hx hb dX8_raise_81 (by decide) ?_
            replace h := bnd h
            obtain ⟨v10, e10, h⟩ := h
            refine m_callVv (k := 36) (As := [.int (9 : Int32), .int (9 : Int32), .int a2, .int (9 : Int32)]) (rest := []) cx.fix hi hw (cc_X8_multiply (l := l) (G := G) (sz := H.size) hi e10) (by decide) rfl rfl (w_cV 4 hts q_52 q_53 q_54 q_55 q_56 rfl rfl (by decide) (by decide)) hl.1 rfl (lv_room (Nat.le_of_ble_eq_true rfl)) dX8_raise_83 (fun H locs hw => ?_)
            cases h
            exact kj _ _ _ (lv_sub hl [0, 1, 2, 3] rfl) hw
        clear h
        replace h := j13
        clear j13
        refine m_lcmp_ne (tgt := 67) hx hb dX8_raise_51 dX8_raise_52 (by decide) (fun hc => ?_) (fun hc => ?_)
        · replace h := ite_f hc h
          cases h
          exact kj _ _ _ (lv_sub hl [0, 1, 2, 3] rfl) hw
        · replace h := ite_t hc h
          refine lv_aload_n hx hb dX8_raise_55 rfl (lv_at hl 0 rfl) ?_
          refine lv_iload hx hb dX8_raise_56 (lv_at hl 2 rfl) ?_
          refine lv_bipush (v := (9 : Int32)) hx hb dX8_raise_58 (by decide) ?_
          refine lv_iload hx hb dX8_raise_60 (lv_at hl 1 rfl) ?_
          refine lv_iload hx hb dX8_raise_62 (lv_at hl 2 rfl) ?_
          replace h := bnd h
          obtain ⟨v8, e8, h⟩ := h
          refine m_callVv (k := 36) (As := [.int a3, .int (9 : Int32), .int a2, .int a3]) (rest := []) cx.fix hi hw (cc_X8_multiply (l := l) (G := G) (sz := H.size) hi e8) (by decide) rfl rfl (w_cV 4 hts q_52 q_53 q_54 q_55 q_56 rfl rfl (by decide) (by decide)) hl.1 rfl (lv_room (Nat.le_of_ble_eq_true rfl)) dX8_raise_64 (fun H locs hw => ?_)
          cases h
          exact kj _ _ _ (lv_sub hl [0, 1, 2, 3] rfl) hw
    · clear hw hl
      intro ls H locs hl hw
      (try dsimp only at hl hw ⊢)
      cases h
      exact kr _ _ _ _ dX8_raise_95 hw
  clear h
  replace h := j16
  clear j16
  refine lv_if_ne (tgt := 32) hx hb dX8_raise_25 (by decide) (fun hc => ?_) (fun hc => ?_)
  · replace h := ite_f hc h
    refine lv_lconst (v := (1 : Int64)) hx hb dX8_raise_32 (by decide) ?_
    cases h
    exact kj _ _ _ (lv_sub hl [0, 2, 3, 4] rfl) hw
  · replace h := ite_t hc h
    refine lv_lconst (v := (0 : Int64)) hx hb dX8_raise_28 (by decide) ?_
    refine lv_goto (tgt := 33) hx hb dX8_raise_29 (by decide) ?_
    cases h
    exact kj _ _ _ (lv_sub hl [0, 2, 3, 4] rfl) hw
theorem cc_X8_raise {l : Launch} {G : gG} {adr : Nat → Nat} {sz : Nat} (hi : adi adr) {n : Nat} {a0 : Int32} {a1 : Int64} {a2 : Int32} {a3 : Int32} {M M' : Mem} (h : f_X8_raise n a0 a1 a2 a3 M = some M') : mV l yX8_raise cX8_raise 8 none { frames := 3, cells := 0, slots := 0, locals := 84 } G adr [.ref (adr 36), .int a0, .long a1, .int a2, .int a3] M sz M' := by
  refine wEnter (by decide) (Nat.le_of_ble_eq_true rfl) ?_
  intro p e s m below meth c ls cx hinit hl hsz hw
  exact b_X8_raise cx hi h (fun pc ls H locs hd hw => w_vret (post := fun (u : Mem) => u = M') (lf := fun u => (LL adr, wf G adr u)) cx.1 cx.2.1 cx.2.2.1 cx.2.2.2.2.2.2 M' hw rfl hd) hl hw
theorem q_57 : Cond.methodLink RX8 100 yX8_monic ∈ uU := uU_in (by decide +kernel) (by decide +kernel)
theorem q_58 : Cond.instanceMethod yX8_monic ∈ uU := uU_in (by decide +kernel) (by decide +kernel)
theorem q_59 : Cond.selects yX8_monic.cls yX8_monic yX8_monic ∈ uU := uU_in (by decide +kernel) (by decide +kernel)
theorem q_60 : Cond.initialized yX8_monic.cls ∈ uU := uU_in (by decide +kernel) (by decide +kernel)
theorem q_61 : Cond.code yX8_monic cX8_monic 5 none ∈ uU := uU_in (by decide +kernel) (by decide +kernel)
def l_X8_commonRow_6 (n : Nat) : Mem × Int32 × Int32 → Option ((Mem × Int32) ⊕ (Mem × Int32 × Int32)) := fun (M1, v2, v3) =>
  Option.bind (ldI M1 42 v3) fun v4 =>
  if v4 < 0 then
    some (.inl (M1, v2))
  else
    Option.bind (f_X8_monic n v3 M1) fun v5 =>
    Option.bind (f_X8_rest n v2 v3 v5) fun v6 =>
    some (.inr (v6, v3, v2))
def f_X8_commonRow (n : Nat) (a0 : Int32) (a1 : Int32) (a2 : Int32) (M : Mem) : Option Mem :=
  Option.bind (lpF (l_X8_commonRow_6 n) n (M, a0, a1)) fun (M8, v9) =>
  Option.bind (f_X8_monic n v9 M8) fun v10 =>
  Option.bind (f_X8_copy n v9 a2 v10) fun v11 =>
  some v11
set_option maxRecDepth 100000 in
set_option maxHeartbeats 8000000 in
theorem b_X8_commonRow {p : Program} {l : Launch} {e : Env} {s : State} {m : MethodId} {args : Array Value} {below : List Frame} {meth : Method} {c : Code} {Q : State → Prop} {G : gG} {A : Nat → Prop} {adr : Nat → Nat} (cx : cX p s m args meth c cX8_commonRow none 7 yX8_commonRow.cls) (hi : adi adr) {n : Nat} {a0 : Int32} {a1 : Int32} {a2 : Int32} {M M' : Mem} 
    (h : f_X8_commonRow n a0 a1 a2 M = some M')
    (kr : ∀ (pc : Nat) (ls : Array Slot) (H : Heap) (locs : List Loc), decode cX8_commonRow pc = .ok (.return_, 1) → wH G A s.heap s (LL adr) (wf G adr M') H locs → W p l e { frames := 3, cells := 0, slots := 0, locals := 80 } s m args below meth c H locs 0 0 Q (F0 m pc ls []))
    {ls : Array Slot} {H : Heap} {locs : List Loc} (hl : lv_has ls 7 [(0, .ref (adr 36)), (1, .int a0), (2, .int a1), (3, .int a2)]) (hw : wH G A s.heap s (LL adr) (wf G adr M) H locs) : W p l e { frames := 3, cells := 0, slots := 0, locals := 80 } s m args below meth c H locs 0 0 Q (F0 m 0 ls []) := by
  obtain ⟨hx, hb, -, -, hown, hts, -⟩ := id cx
  have hown : s.vm.findClass RX8 = some m.cls := hown
  unfold f_X8_commonRow at h
  refine lv_iload_n hx hb dX8_commonRow_0 rfl (lv_at hl 1 rfl) ?_
  refine lv_istore (lv' := [(4, .int a0), (0, .ref (adr 36)), (1, .int a0), (2, .int a1), (3, .int a2)]) hx hb dX8_commonRow_1 hl (by decide) rfl (fun ls hl => ?_)
  refine lv_iload_n hx hb dX8_commonRow_3 rfl (lv_at hl 3 rfl) ?_
  refine lv_istore (lv' := [(5, .int a1), (4, .int a0), (0, .ref (adr 36)), (1, .int a0), (2, .int a1), (3, .int a2)]) hx hb dX8_commonRow_4 hl (by decide) rfl (fun ls hl => ?_)
  replace h := bnd h
  obtain ⟨⟨M8, v9⟩, j7, h⟩ := h
  refine lp_W (Wst := fun (st : Mem × Int32 × Int32) => ∀ (ls : Array Slot) (H : Heap) (locs : List Loc), lv_has ls 7 [(0, .ref (adr 36)), (3, .int a2), (4, .int st.2.1), (5, .int st.2.2)] → wH G A s.heap s (LL adr) (wf G adr st.1) H locs → W p l e { frames := 3, cells := 0, slots := 0, locals := 80 } s m args below meth c H locs 0 0 Q (F0 m 6 ls [])) (fin := fun (r : Mem × Int32) => ∀ (ls : Array Slot) (H : Heap) (locs : List Loc), lv_has ls 7 [(0, .ref (adr 36)), (3, .int a2), (4, .int r.2)] → wH G A s.heap s (LL adr) (wf G adr r.1) H locs → W p l e { frames := 3, cells := 0, slots := 0, locals := 80 } s m args below meth c H locs 0 0 Q (F0 m 45 ls [])) ?_ n _ _ j7 ?_ _ _ _ (lv_sub hl [2, 5, 1, 0] rfl) hw
  · clear h j7 hw hl
    intro ⟨M1, v2, v3⟩ x h k1 k2 ls H locs hl hw
    (try dsimp only at k1 k2 hl hw ⊢)
    unfold l_X8_commonRow_6 at h
    (try dsimp only at h)
    refine lv_aload_n hx hb dX8_commonRow_6 rfl (lv_at hl 0 rfl) ?_
    refine m_get (k := 36) (C := RX8) (T := TX8) (N := 18) (ref := "LiftFactorsModel") (v := .ref (adr 42)) hx hb hi hts inX8_u hown hw (by decide) rfl 8 (by decide) q_1 rfl rfl dX8_commonRow_7 ?_
    refine lv_iload hx hb dX8_commonRow_10 (lv_at hl 3 rfl) ?_
    replace h := bnd h
    obtain ⟨v4, e4, h⟩ := h
    refine m_iald hx hb hi hw e4 dX8_commonRow_12 ?_
    refine lv_if_lt (tgt := 45) hx hb dX8_commonRow_13 (by decide) (fun hc => ?_) (fun hc => ?_)
    · replace h := ite_t hc h
      cases h
      exact k1 _ rfl _ _ _ (lv_sub hl [0, 1, 2] rfl) hw
    · replace h := ite_f hc h
      refine lv_aload_n hx hb dX8_commonRow_16 rfl (lv_at hl 0 rfl) ?_
      refine lv_iload hx hb dX8_commonRow_17 (lv_at hl 3 rfl) ?_
      replace h := bnd h
      obtain ⟨v5, e5, h⟩ := h
      refine m_callVv (k := 36) (As := [.int v3]) (rest := []) cx.fix hi hw (cc_X8_monic (l := l) (G := G) (sz := H.size) hi e5) (by decide) rfl rfl (w_cV 1 hts q_57 q_58 q_59 q_60 q_61 rfl rfl (by decide) (by decide)) hl.1 rfl (lv_room (Nat.le_of_ble_eq_true rfl)) dX8_commonRow_19 (fun H locs hw => ?_)
      refine lv_aload_n hx hb dX8_commonRow_22 rfl (lv_at hl 0 rfl) ?_
      refine lv_iload hx hb dX8_commonRow_23 (lv_at hl 2 rfl) ?_
      refine lv_iload hx hb dX8_commonRow_25 (lv_at hl 3 rfl) ?_
      replace h := bnd h
      obtain ⟨v6, e6, h⟩ := h
      refine m_callVv (k := 36) (As := [.int v2, .int v3]) (rest := []) cx.fix hi hw (cc_X8_rest (l := l) (G := G) (sz := H.size) hi e6) (by decide) rfl rfl (w_cV 2 hts q_42 q_43 q_44 q_45 q_46 rfl rfl (by decide) (by decide)) hl.1 rfl (lv_room (Nat.le_of_ble_eq_true rfl)) dX8_commonRow_27 (fun H locs hw => ?_)
      refine lv_iload hx hb dX8_commonRow_30 (lv_at hl 2 rfl) ?_
      refine lv_istore (lv' := [(6, .int v2), (0, .ref (adr 36)), (3, .int a2), (4, .int v2), (5, .int v3)]) hx hb dX8_commonRow_32 hl (by decide) rfl (fun ls hl => ?_)
      refine lv_iload hx hb dX8_commonRow_34 (lv_at hl 4 rfl) ?_
      refine lv_istore (lv' := [(4, .int v3), (6, .int v2), (0, .ref (adr 36)), (3, .int a2), (5, .int v3)]) hx hb dX8_commonRow_36 hl (by decide) rfl (fun ls hl => ?_)
      refine lv_iload hx hb dX8_commonRow_38 (lv_at hl 1 rfl) ?_
      refine lv_istore (lv' := [(5, .int v2), (4, .int v3), (6, .int v2), (0, .ref (adr 36)), (3, .int a2)]) hx hb dX8_commonRow_40 hl (by decide) rfl (fun ls hl => ?_)
      refine lv_goto (tgt := 6) hx hb dX8_commonRow_42 (by decide) ?_
      cases h
      exact k2 _ rfl _ _ _ (lv_sub hl [3, 4, 1, 0] rfl) hw
  · clear hw hl
    intro ls H locs hl hw
    (try dsimp only at hl hw ⊢)
    refine lv_aload_n hx hb dX8_commonRow_45 rfl (lv_at hl 0 rfl) ?_
    refine lv_iload hx hb dX8_commonRow_46 (lv_at hl 2 rfl) ?_
    replace h := bnd h
    obtain ⟨v10, e10, h⟩ := h
    refine m_callVv (k := 36) (As := [.int v9]) (rest := []) cx.fix hi hw (cc_X8_monic (l := l) (G := G) (sz := H.size) hi e10) (by decide) rfl rfl (w_cV 1 hts q_57 q_58 q_59 q_60 q_61 rfl rfl (by decide) (by decide)) hl.1 rfl (lv_room (Nat.le_of_ble_eq_true rfl)) dX8_commonRow_48 (fun H locs hw => ?_)
    refine lv_aload_n hx hb dX8_commonRow_51 rfl (lv_at hl 0 rfl) ?_
    refine lv_iload hx hb dX8_commonRow_52 (lv_at hl 2 rfl) ?_
    refine lv_iload_n hx hb dX8_commonRow_54 rfl (lv_at hl 1 rfl) ?_
    replace h := bnd h
    obtain ⟨v11, e11, h⟩ := h
    refine m_callVv (k := 36) (As := [.int v9, .int a2]) (rest := []) cx.fix hi hw (cc_X8_copy (l := l) (G := G) (sz := H.size) hi e11) (by decide) rfl rfl (w_cV 2 hts q_24 q_25 q_26 q_27 q_28 rfl rfl (by decide) (by decide)) hl.1 rfl (lv_room (Nat.le_of_ble_eq_true rfl)) dX8_commonRow_55 (fun H locs hw => ?_)
    cases h
    exact kr _ _ _ _ dX8_commonRow_58 hw
theorem cc_X8_commonRow {l : Launch} {G : gG} {adr : Nat → Nat} {sz : Nat} (hi : adi adr) {n : Nat} {a0 : Int32} {a1 : Int32} {a2 : Int32} {M M' : Mem} (h : f_X8_commonRow n a0 a1 a2 M = some M') : mV l yX8_commonRow cX8_commonRow 7 none { frames := 3, cells := 0, slots := 0, locals := 80 } G adr [.ref (adr 36), .int a0, .int a1, .int a2] M sz M' := by
  refine wEnter (by decide) (Nat.le_of_ble_eq_true rfl) ?_
  intro p e s m below meth c ls cx hinit hl hsz hw
  exact b_X8_commonRow cx hi h (fun pc ls H locs hd hw => w_vret (post := fun (u : Mem) => u = M') (lf := fun u => (LL adr, wf G adr u)) cx.1 cx.2.1 cx.2.2.1 cx.2.2.2.2.2.2 M' hw rfl hd) hl hw
theorem q_62 : Cond.constantLong RX8 104 (1000000000000) ∈ uU := uU_in (by decide +kernel) (by decide +kernel)
theorem q_63 : Cond.fieldLink RX8 7 "LiftFactorsModel" "primesBelow" "[I" ∈ uU := uU_in (by decide +kernel) (by decide +kernel)
def f_X8_takePrime (a0 : Int32) (M : Mem) : Option Mem :=
  Option.bind (ldI M 37 a0) fun v1 =>
  Option.bind (ptJ M 36 9 ((1000000000000 : Int64) - v1.toInt64)) fun v2 =>
  some v2
set_option maxRecDepth 100000 in
set_option maxHeartbeats 8000000 in
theorem b_X8_takePrime {p : Program} {l : Launch} {e : Env} {s : State} {m : MethodId} {args : Array Value} {below : List Frame} {meth : Method} {c : Code} {Q : State → Prop} {G : gG} {A : Nat → Prop} {adr : Nat → Nat} (cx : cX p s m args meth c cX8_takePrime none 2 yX8_takePrime.cls) (hi : adi adr) {a0 : Int32} {M M' : Mem} 
    (h : f_X8_takePrime a0 M = some M')
    (kr : ∀ (pc : Nat) (ls : Array Slot) (H : Heap) (locs : List Loc), decode cX8_takePrime pc = .ok (.return_, 1) → wH G A s.heap s (LL adr) (wf G adr M') H locs → W p l e { frames := 0, cells := 0, slots := 0, locals := 0 } s m args below meth c H locs 0 0 Q (F0 m pc ls []))
    {ls : Array Slot} {H : Heap} {locs : List Loc} (hl : lv_has ls 2 [(0, .ref (adr 36)), (1, .int a0)]) (hw : wH G A s.heap s (LL adr) (wf G adr M) H locs) : W p l e { frames := 0, cells := 0, slots := 0, locals := 0 } s m args below meth c H locs 0 0 Q (F0 m 0 ls []) := by
  obtain ⟨hx, hb, -, -, hown, hts, -⟩ := id cx
  have hown : s.vm.findClass RX8 = some m.cls := hown
  unfold f_X8_takePrime at h
  refine lv_aload_n hx hb dX8_takePrime_0 rfl (lv_at hl 0 rfl) ?_
  refine lv_ldc2 (v := (1000000000000 : Int64)) hx hb hown (hts _ q_62) dX8_takePrime_1 ?_
  refine lv_aload_n hx hb dX8_takePrime_4 rfl (lv_at hl 0 rfl) ?_
  refine m_get (k := 36) (C := RX8) (T := TX8) (N := 18) (ref := "LiftFactorsModel") (v := .ref (adr 37)) hx hb hi hts inX8_u hown hw (by decide) rfl 0 (by decide) q_63 rfl rfl dX8_takePrime_5 ?_
  refine lv_iload_n hx hb dX8_takePrime_8 rfl (lv_at hl 1 rfl) ?_
  replace h := bnd h
  obtain ⟨v1, e1, h⟩ := h
  refine m_iald hx hb hi hw e1 dX8_takePrime_9 ?_
  refine lv_i2l (v := v1.toInt64) hx hb dX8_takePrime_10 rfl ?_
  refine lv_lsub hx hb dX8_takePrime_11 ?_
  replace h := bnd h
  obtain ⟨v2, e2, h⟩ := h
  obtain rfl := pt_s e2
  refine m_putJ (k := 36) (C := RX8) (T := TX8) (N := 18) (ref := "LiftFactorsModel") hx hb hi hts inX8_u tyX8 tyX8_ok nmX8 hown hw (by decide) rfl 9 (by decide) q_29 rfl rfl (by decide +kernel) rfl dX8_takePrime_12 (fun H locs hw => ?_)
  obtain ⟨v2, e2⟩ : ∃ z9, z9 = sJ M 36 9 ((1000000000000 : Int64) - v1.toInt64) := ⟨_, rfl⟩
  rw [← e2] at h hw
  cases h
  exact kr _ _ _ _ dX8_takePrime_15 hw
theorem cc_X8_takePrime {l : Launch} {G : gG} {adr : Nat → Nat} {sz : Nat} (hi : adi adr) {a0 : Int32} {M M' : Mem} (h : f_X8_takePrime a0 M = some M') : mV l yX8_takePrime cX8_takePrime 2 none { frames := 0, cells := 0, slots := 0, locals := 0 } G adr [.ref (adr 36), .int a0] M sz M' := by
  refine wEnter (by decide) (Nat.le_of_ble_eq_true rfl) ?_
  intro p e s m below meth c ls cx hinit hl hsz hw
  exact b_X8_takePrime cx hi h (fun pc ls H locs hd hw => w_vret (post := fun (u : Mem) => u = M') (lf := fun u => (LL adr, wf G adr u)) cx.1 cx.2.1 cx.2.2.1 cx.2.2.2.2.2.2 M' hw rfl hd) hl hw
def l_X8_center_2 (a0 : Int32) : Mem × Int32 → Option ((Mem) ⊕ (Mem × Int32)) := fun (M1, v2) =>
  Option.bind (ldI M1 42 a0) fun v3 =>
  if v3 < v2 then
    some (.inl M1)
  else
    Option.bind (ldJ M1 41 (((24 : Int32) * a0) + v2)) fun v4 =>
    Option.bind (dvJ (M1.1 36 9) (2 : Int64)) fun v5 =>
    Option.bind (
      if v4 ≤ v5 then
        some M1
      else
        Option.bind (ldJ M1 41 (((24 : Int32) * a0) + v2)) fun v6 =>
        Option.bind (stJ M1 41 (((24 : Int32) * a0) + v2) (v6 - (M1.1 36 9))) fun v7 =>
        some v7) fun M8 =>
    some (.inr (M8, v2 + 1))
def f_X8_center (n : Nat) (a0 : Int32) (M : Mem) : Option Mem :=
  Option.bind (lpF (l_X8_center_2 a0) n (M, (0 : Int32))) fun M11 =>
  some M11
set_option maxRecDepth 100000 in
set_option maxHeartbeats 8000000 in
theorem b_X8_center {p : Program} {l : Launch} {e : Env} {s : State} {m : MethodId} {args : Array Value} {below : List Frame} {meth : Method} {c : Code} {Q : State → Prop} {G : gG} {A : Nat → Prop} {adr : Nat → Nat} (cx : cX p s m args meth c cX8_center none 3 yX8_center.cls) (hi : adi adr) {n : Nat} {a0 : Int32} {M M' : Mem} 
    (h : f_X8_center n a0 M = some M')
    (kr : ∀ (pc : Nat) (ls : Array Slot) (H : Heap) (locs : List Loc), decode cX8_center pc = .ok (.return_, 1) → wH G A s.heap s (LL adr) (wf G adr M') H locs → W p l e { frames := 0, cells := 0, slots := 0, locals := 0 } s m args below meth c H locs 0 0 Q (F0 m pc ls []))
    {ls : Array Slot} {H : Heap} {locs : List Loc} (hl : lv_has ls 3 [(0, .ref (adr 36)), (1, .int a0)]) (hw : wH G A s.heap s (LL adr) (wf G adr M) H locs) : W p l e { frames := 0, cells := 0, slots := 0, locals := 0 } s m args below meth c H locs 0 0 Q (F0 m 0 ls []) := by
  obtain ⟨hx, hb, -, -, hown, hts, -⟩ := id cx
  have hown : s.vm.findClass RX8 = some m.cls := hown
  unfold f_X8_center at h
  refine lv_iconst (v := (0 : Int32)) hx hb dX8_center_0 (by decide) ?_
  refine lv_istore_n (lv' := [(2, .int (0 : Int32)), (0, .ref (adr 36)), (1, .int a0)]) hx hb dX8_center_1 rfl hl (by decide) rfl (fun ls hl => ?_)
  replace h := bnd h
  obtain ⟨M11, j10, h⟩ := h
  refine lp_W (Wst := fun (st : Mem × Int32) => ∀ (ls : Array Slot) (H : Heap) (locs : List Loc), lv_has ls 3 [(0, .ref (adr 36)), (1, .int a0), (2, .int st.2)] → wH G A s.heap s (LL adr) (wf G adr st.1) H locs → W p l e { frames := 0, cells := 0, slots := 0, locals := 0 } s m args below meth c H locs 0 0 Q (F0 m 2 ls [])) (fin := fun (r : Mem) => ∀ (ls : Array Slot) (H : Heap) (locs : List Loc), lv_has ls 3 [] → wH G A s.heap s (LL adr) (wf G adr r) H locs → W p l e { frames := 0, cells := 0, slots := 0, locals := 0 } s m args below meth c H locs 0 0 Q (F0 m 59 ls [])) ?_ n _ _ j10 ?_ _ _ _ (lv_sub hl [1, 2, 0] rfl) hw
  · clear h j10 hw hl
    intro ⟨M1, v2⟩ x h k1 k2 ls H locs hl hw
    (try dsimp only at k1 k2 hl hw ⊢)
    unfold l_X8_center_2 at h
    (try dsimp only at h)
    refine lv_iload_n hx hb dX8_center_2 rfl (lv_at hl 2 rfl) ?_
    refine lv_aload_n hx hb dX8_center_3 rfl (lv_at hl 0 rfl) ?_
    refine m_get (k := 36) (C := RX8) (T := TX8) (N := 18) (ref := "LiftFactorsModel") (v := .ref (adr 42)) hx hb hi hts inX8_u hown hw (by decide) rfl 8 (by decide) q_1 rfl rfl dX8_center_4 ?_
    refine lv_iload_n hx hb dX8_center_7 rfl (lv_at hl 1 rfl) ?_
    replace h := bnd h
    obtain ⟨v3, e3, h⟩ := h
    refine m_iald hx hb hi hw e3 dX8_center_8 ?_
    refine lv_icmp_gt (tgt := 59) hx hb dX8_center_9 (by decide) (fun hc => ?_) (fun hc => ?_)
    · replace h := ite_t hc h
      cases h
      exact k1 _ rfl _ _ _ (lv_sub hl [] rfl) hw
    · replace h := ite_f hc h
      refine lv_aload_n hx hb dX8_center_12 rfl (lv_at hl 0 rfl) ?_
      refine m_get (k := 36) (C := RX8) (T := TX8) (N := 18) (ref := "LiftFactorsModel") (v := .ref (adr 41)) hx hb hi hts inX8_u hown hw (by decide) rfl 7 (by decide) q_0 rfl rfl dX8_center_13 ?_
      refine lv_bipush (v := (24 : Int32)) hx hb dX8_center_16 (by decide) ?_
      refine lv_iload_n hx hb dX8_center_18 rfl (lv_at hl 1 rfl) ?_
      refine lv_imul hx hb dX8_center_19 ?_
      refine lv_iload_n hx hb dX8_center_20 rfl (lv_at hl 2 rfl) ?_
      refine lv_iadd hx hb dX8_center_21 ?_
      replace h := bnd h
      obtain ⟨v4, e4, h⟩ := h
      refine m_lald hx hb hi hw e4 dX8_center_22 ?_
      refine lv_aload_n hx hb dX8_center_23 rfl (lv_at hl 0 rfl) ?_
      refine m_get (k := 36) (C := RX8) (T := TX8) (N := 18) (ref := "LiftFactorsModel") (v := .long (M1.1 36 9)) hx hb hi hts inX8_u hown hw (by decide) rfl 9 (by decide) q_29 rfl rfl dX8_center_24 ?_
      refine lv_ldc2 (v := (2 : Int64)) hx hb hown (hts _ q_36) dX8_center_27 ?_
      replace h := bnd h
      obtain ⟨v5, e5, h⟩ := h
      obtain ⟨ne5, rfl⟩ := dvJ_ok e5
      refine lv_ldiv hx hb dX8_center_30 ne5 ?_
      obtain ⟨v5, e5⟩ : ∃ z9, z9 = (M1.1 36 9) / (2 : Int64) := ⟨_, rfl⟩
      rw [← e5] at h ⊢
      replace h := bnd h
      obtain ⟨M8, j9, h⟩ := h
      have kj : ∀ (ls : Array Slot) (H : Heap) (locs : List Loc), lv_has ls 3 [(0, .ref (adr 36)), (1, .int a0), (2, .int v2)] → wH G A s.heap s (LL adr) (wf G adr M8) H locs → W p l e { frames := 0, cells := 0, slots := 0, locals := 0 } s m args below meth c H locs 0 0 Q (F0 m 53 ls []) := by
        intro ls H locs hl hw
        refine lv_iinc (v := v2 + 1) (lv' := [(2, .int (v2 + 1)), (0, .ref (adr 36)), (1, .int a0)]) hx hb dX8_center_53 hl (k := 2) rfl (inc_p _ (by decide)) (by decide) rfl (fun ls hl => ?_)
        refine lv_goto (tgt := 2) hx hb dX8_center_56 (by decide) ?_
        cases h
        exact k2 _ rfl _ _ _ (lv_sub hl [1, 2, 0] rfl) hw
      clear h
      replace h := j9
      clear j9
      refine m_lcmp_le (tgt := 53) hx hb dX8_center_31 dX8_center_32 (by decide) (fun hc => ?_) (fun hc => ?_)
      · replace h := ite_t hc h
        cases h
        exact kj _ _ _ (lv_sub hl [0, 1, 2] rfl) hw
      · replace h := ite_f hc h
        refine lv_aload_n hx hb dX8_center_35 rfl (lv_at hl 0 rfl) ?_
        refine m_get (k := 36) (C := RX8) (T := TX8) (N := 18) (ref := "LiftFactorsModel") (v := .ref (adr 41)) hx hb hi hts inX8_u hown hw (by decide) rfl 7 (by decide) q_0 rfl rfl dX8_center_36 ?_
        refine lv_bipush (v := (24 : Int32)) hx hb dX8_center_39 (by decide) ?_
        refine lv_iload_n hx hb dX8_center_41 rfl (lv_at hl 1 rfl) ?_
        refine lv_imul hx hb dX8_center_42 ?_
        refine lv_iload_n hx hb dX8_center_43 rfl (lv_at hl 2 rfl) ?_
        refine lv_iadd hx hb dX8_center_44 ?_
        refine lv_dup2_11 hx hb dX8_center_45 rfl rfl ?_
        replace h := bnd h
        obtain ⟨v6, e6, h⟩ := h
        refine m_lald hx hb hi hw e6 dX8_center_46 ?_
        refine lv_aload_n hx hb dX8_center_47 rfl (lv_at hl 0 rfl) ?_
        refine m_get (k := 36) (C := RX8) (T := TX8) (N := 18) (ref := "LiftFactorsModel") (v := .long (M1.1 36 9)) hx hb hi hts inX8_u hown hw (by decide) rfl 9 (by decide) q_29 rfl rfl dX8_center_48 ?_
        refine lv_lsub hx hb dX8_center_51 ?_
        replace h := bnd h
        obtain ⟨v7, e7, h⟩ := h
        refine m_last hx hb hi hw e7 dX8_center_52 (fun H locs hw => ?_)
        cases h
        exact kj _ _ _ (lv_sub hl [0, 1, 2] rfl) hw
  · clear hw hl
    intro ls H locs hl hw
    (try dsimp only at hl hw ⊢)
    cases h
    exact kr _ _ _ _ dX8_center_59 hw
theorem cc_X8_center {l : Launch} {G : gG} {adr : Nat → Nat} {sz : Nat} (hi : adi adr) {n : Nat} {a0 : Int32} {M M' : Mem} (h : f_X8_center n a0 M = some M') : mV l yX8_center cX8_center 3 none { frames := 0, cells := 0, slots := 0, locals := 0 } G adr [.ref (adr 36), .int a0] M sz M' := by
  refine wEnter (by decide) (Nat.le_of_ble_eq_true rfl) ?_
  intro p e s m below meth c ls cx hinit hl hsz hw
  exact b_X8_center cx hi h (fun pc ls H locs hd hw => w_vret (post := fun (u : Mem) => u = M') (lf := fun u => (LL adr, wf G adr u)) cx.1 cx.2.1 cx.2.2.1 cx.2.2.2.2.2.2 M' hw rfl hd) hl hw
theorem q_64 : Cond.methodLink RX8 106 yX8_primitive ∈ uU := uU_in (by decide +kernel) (by decide +kernel)
theorem q_65 : Cond.instanceMethod yX8_primitive ∈ uU := uU_in (by decide +kernel) (by decide +kernel)
theorem q_66 : Cond.selects yX8_primitive.cls yX8_primitive yX8_primitive ∈ uU := uU_in (by decide +kernel) (by decide +kernel)
theorem q_67 : Cond.initialized yX8_primitive.cls ∈ uU := uU_in (by decide +kernel) (by decide +kernel)
theorem q_68 : Cond.code yX8_primitive cX8_primitive 5 (some .long) ∈ uU := uU_in (by decide +kernel) (by decide +kernel)
theorem q_69 : Cond.methodLink RX8 110 yX8_takePrime ∈ uU := uU_in (by decide +kernel) (by decide +kernel)
theorem q_70 : Cond.instanceMethod yX8_takePrime ∈ uU := uU_in (by decide +kernel) (by decide +kernel)
theorem q_71 : Cond.selects yX8_takePrime.cls yX8_takePrime yX8_takePrime ∈ uU := uU_in (by decide +kernel) (by decide +kernel)
theorem q_72 : Cond.initialized yX8_takePrime.cls ∈ uU := uU_in (by decide +kernel) (by decide +kernel)
theorem q_73 : Cond.code yX8_takePrime cX8_takePrime 2 none ∈ uU := uU_in (by decide +kernel) (by decide +kernel)
theorem q_74 : Cond.methodLink RX8 113 yX8_reduce ∈ uU := uU_in (by decide +kernel) (by decide +kernel)
theorem q_75 : Cond.instanceMethod yX8_reduce ∈ uU := uU_in (by decide +kernel) (by decide +kernel)
theorem q_76 : Cond.selects yX8_reduce.cls yX8_reduce yX8_reduce ∈ uU := uU_in (by decide +kernel) (by decide +kernel)
theorem q_77 : Cond.initialized yX8_reduce.cls ∈ uU := uU_in (by decide +kernel) (by decide +kernel)
theorem q_78 : Cond.code yX8_reduce cX8_reduce 6 none ∈ uU := uU_in (by decide +kernel) (by decide +kernel)
theorem q_79 : Cond.methodLink RX8 116 yX8_commonRow ∈ uU := uU_in (by decide +kernel) (by decide +kernel)
theorem q_80 : Cond.instanceMethod yX8_commonRow ∈ uU := uU_in (by decide +kernel) (by decide +kernel)
theorem q_81 : Cond.selects yX8_commonRow.cls yX8_commonRow yX8_commonRow ∈ uU := uU_in (by decide +kernel) (by decide +kernel)
theorem q_82 : Cond.initialized yX8_commonRow.cls ∈ uU := uU_in (by decide +kernel) (by decide +kernel)
theorem q_83 : Cond.code yX8_commonRow cX8_commonRow 7 none ∈ uU := uU_in (by decide +kernel) (by decide +kernel)
theorem q_84 : Cond.methodLink RX8 120 yX8_center ∈ uU := uU_in (by decide +kernel) (by decide +kernel)
theorem q_85 : Cond.instanceMethod yX8_center ∈ uU := uU_in (by decide +kernel) (by decide +kernel)
theorem q_86 : Cond.selects yX8_center.cls yX8_center yX8_center ∈ uU := uU_in (by decide +kernel) (by decide +kernel)
theorem q_87 : Cond.initialized yX8_center.cls ∈ uU := uU_in (by decide +kernel) (by decide +kernel)
theorem q_88 : Cond.code yX8_center cX8_center 3 none ∈ uU := uU_in (by decide +kernel) (by decide +kernel)
theorem q_89 : Cond.constantLong RX8 123 (400000000) ∈ uU := uU_in (by decide +kernel) (by decide +kernel)
theorem q_90 : Cond.methodLink RX8 125 yX8_divides ∈ uU := uU_in (by decide +kernel) (by decide +kernel)
theorem q_91 : Cond.instanceMethod yX8_divides ∈ uU := uU_in (by decide +kernel) (by decide +kernel)
theorem q_92 : Cond.selects yX8_divides.cls yX8_divides yX8_divides ∈ uU := uU_in (by decide +kernel) (by decide +kernel)
theorem q_93 : Cond.initialized yX8_divides.cls ∈ uU := uU_in (by decide +kernel) (by decide +kernel)
theorem q_94 : Cond.code yX8_divides cX8_divides 14 (some .boolean) ∈ uU := uU_in (by decide +kernel) (by decide +kernel)
def l_X8_commonWhole_136 (v13 : Int64) : Mem × Int32 → Option ((Mem) ⊕ (Mem × Int32)) := fun (M23, v24) =>
  Option.bind (ldI M23 42 (7 : Int32)) fun v25 =>
  if v25 < v24 then
    some (.inl M23)
  else
    Option.bind (ldJ M23 41 ((168 : Int32) + v24)) fun v26 =>
    Option.bind (f_X8_product v26 v13 M23) fun v27 =>
    Option.bind (stJ M23 41 ((168 : Int32) + v24) v27) fun v28 =>
    some (.inr (v28, v24 + 1))
def l_X8_commonWhole_84 (n : Nat) (a0 : Int32) (a1 : Int32) (a2 : Int32) (v13 : Int64) : Mem × Int32 → Option (((Mem) ⊕ (Mem)) ⊕ (Mem × Int32)) := fun (M14, v15) =>
  Option.bind (lnA 37) fun v16 =>
  if v16 ≤ v15 then
    some (.inl (.inr M14))
  else
    Option.bind (f_X8_takePrime v15 M14) fun v17 =>
    Option.bind (f_X8_copy n a0 (5 : Int32) v17) fun v18 =>
    Option.bind (f_X8_copy n a1 (6 : Int32) v18) fun v19 =>
    Option.bind (f_X8_reduce n (5 : Int32) v19) fun v20 =>
    Option.bind (f_X8_reduce n (6 : Int32) v20) fun v21 =>
    Option.bind (f_X8_commonRow n (5 : Int32) (6 : Int32) (7 : Int32) v21) fun v22 =>
    Option.bind (lpF (l_X8_commonWhole_136 v13) n (v22, (0 : Int32))) fun M30 =>
    Option.bind (f_X8_center n (7 : Int32) M30) fun v31 =>
    Option.bind (f_X8_primitive n (7 : Int32) v31) fun (v32, M33) =>
    Option.bind (f_X8_divides n (7 : Int32) a0 (400000000 : Int64) M33) fun (v34, M35) =>
    if v34 = 0 then
      some (.inr (M35, v15 + 1))
    else
      Option.bind (f_X8_divides n (7 : Int32) a1 (400000000 : Int64) M35) fun (v36, M37) =>
      if v36 = 0 then
        some (.inr (M37, v15 + 1))
      else
        Option.bind (f_X8_copy n (7 : Int32) a2 M37) fun v38 =>
        some (.inl (.inl v38))
def f_X8_commonWhole (n : Nat) (a0 : Int32) (a1 : Int32) (a2 : Int32) (M : Mem) : Option Mem :=
  Option.bind (ldI M 42 a0) fun v1 =>
  if v1 < 0 then
    Option.bind (ldI M 42 a0) fun v2 =>
    Option.bind (
      if 0 ≤ v2 then
        some a0
      else
        some a1) fun v3 =>
    Option.bind (f_X8_copy n v3 a2 M) fun v4 =>
    Option.bind (f_X8_primitive n a2 v4) fun (v5, M6) =>
    some M6
  else
    Option.bind (ldI M 42 a1) fun v8 =>
    if 0 ≤ v8 then
      Option.bind (ldI M 42 a0) fun v9 =>
      Option.bind (ldJ M 41 (((24 : Int32) * a0) + v9)) fun v10 =>
      Option.bind (ldI M 42 a1) fun v11 =>
      Option.bind (ldJ M 41 (((24 : Int32) * a1) + v11)) fun v12 =>
      Option.bind (f_X8_common n v10 v12) fun v13 =>
      Option.bind (lpF (l_X8_commonWhole_84 n a0 a1 a2 v13) n (M, (0 : Int32))) fun r => match r with
      | .inl o => some o
      | .inr M40 =>
        some M40
    else
      Option.bind (ldI M 42 a0) fun v42 =>
      Option.bind (
        if 0 ≤ v42 then
          some a0
        else
          some a1) fun v43 =>
      Option.bind (f_X8_copy n v43 a2 M) fun v44 =>
      Option.bind (f_X8_primitive n a2 v44) fun (v45, M46) =>
      some M46
set_option maxRecDepth 100000 in
set_option maxHeartbeats 8000000 in
theorem b_X8_commonWhole {p : Program} {l : Launch} {e : Env} {s : State} {m : MethodId} {args : Array Value} {below : List Frame} {meth : Method} {c : Code} {Q : State → Prop} {G : gG} {A : Nat → Prop} {adr : Nat → Nat} (cx : cX p s m args meth c cX8_commonWhole none 8 yX8_commonWhole.cls) (hi : adi adr) {n : Nat} {a0 : Int32} {a1 : Int32} {a2 : Int32} {M M' : Mem} 
    (h : f_X8_commonWhole n a0 a1 a2 M = some M')
    (kr : ∀ (pc : Nat) (ls : Array Slot) (H : Heap) (locs : List Loc), decode cX8_commonWhole pc = .ok (.return_, 1) → wH G A s.heap s (LL adr) (wf G adr M') H locs → W p l e { frames := 4, cells := 0, slots := 0, locals := 106 } s m args below meth c H locs 0 0 Q (F0 m pc ls []))
    {ls : Array Slot} {H : Heap} {locs : List Loc} (hl : lv_has ls 8 [(0, .ref (adr 36)), (1, .int a0), (2, .int a1), (3, .int a2)]) (hw : wH G A s.heap s (LL adr) (wf G adr M) H locs) : W p l e { frames := 4, cells := 0, slots := 0, locals := 106 } s m args below meth c H locs 0 0 Q (F0 m 0 ls []) := by
  obtain ⟨hx, hb, -, -, hown, hts, -⟩ := id cx
  have hown : s.vm.findClass RX8 = some m.cls := hown
  unfold f_X8_commonWhole at h
  refine lv_aload_n hx hb dX8_commonWhole_0 rfl (lv_at hl 0 rfl) ?_
  refine m_get (k := 36) (C := RX8) (T := TX8) (N := 18) (ref := "LiftFactorsModel") (v := .ref (adr 42)) hx hb hi hts inX8_u hown hw (by decide) rfl 8 (by decide) q_1 rfl rfl dX8_commonWhole_1 ?_
  refine lv_iload_n hx hb dX8_commonWhole_4 rfl (lv_at hl 1 rfl) ?_
  replace h := bnd h
  obtain ⟨v1, e1, h⟩ := h
  refine m_iald hx hb hi hw e1 dX8_commonWhole_5 ?_
  refine lv_if_lt (tgt := 18) hx hb dX8_commonWhole_6 (by decide) (fun hc => ?_) (fun hc => ?_)
  · replace h := ite_t hc h
    refine lv_aload_n hx hb dX8_commonWhole_18 rfl (lv_at hl 0 rfl) ?_
    refine lv_aload_n hx hb dX8_commonWhole_19 rfl (lv_at hl 0 rfl) ?_
    refine m_get (k := 36) (C := RX8) (T := TX8) (N := 18) (ref := "LiftFactorsModel") (v := .ref (adr 42)) hx hb hi hts inX8_u hown hw (by decide) rfl 8 (by decide) q_1 rfl rfl dX8_commonWhole_20 ?_
    refine lv_iload_n hx hb dX8_commonWhole_23 rfl (lv_at hl 1 rfl) ?_
    replace h := bnd h
    obtain ⟨v2, e2, h⟩ := h
    refine m_iald hx hb hi hw e2 dX8_commonWhole_24 ?_
    replace h := bnd h
    obtain ⟨v3, j7, h⟩ := h
    have kj : ∀ (ls : Array Slot) (H : Heap) (locs : List Loc), lv_has ls 8 [(0, .ref (adr 36)), (3, .int a2)] → wH G A s.heap s (LL adr) (wf G adr M) H locs → W p l e { frames := 4, cells := 0, slots := 0, locals := 106 } s m args below meth c H locs 0 0 Q (F0 m 33 ls [.int v3, .ref (adr 36)]) := by
      intro ls H locs hl hw
      refine lv_iload_n hx hb dX8_commonWhole_33 rfl (lv_at hl 1 rfl) ?_
      replace h := bnd h
      obtain ⟨v4, e4, h⟩ := h
      refine m_callVv (k := 36) (As := [.int v3, .int a2]) (rest := []) cx.fix hi hw (cc_X8_copy (l := l) (G := G) (sz := H.size) hi e4) (by decide) rfl rfl (w_cV 2 hts q_24 q_25 q_26 q_27 q_28 rfl rfl (by decide) (by decide)) hl.1 rfl (lv_room (Nat.le_of_ble_eq_true rfl)) dX8_commonWhole_34 (fun H locs hw => ?_)
      refine lv_aload_n hx hb dX8_commonWhole_37 rfl (lv_at hl 0 rfl) ?_
      refine lv_iload_n hx hb dX8_commonWhole_38 rfl (lv_at hl 1 rfl) ?_
      replace h := bnd h
      obtain ⟨⟨v5, M6⟩, e5, h⟩ := h
      refine m_callVl (k := 36) (As := [.int a2]) (rest := []) cx.fix hi hw (cc_X8_primitive (l := l) (G := G) (sz := H.size) hi e5) (by decide) rfl rfl (w_cV 1 hts q_64 q_65 q_66 q_67 q_68 rfl rfl (by decide) (by decide)) hl.1 rfl (lv_room (Nat.le_of_ble_eq_true rfl)) dX8_commonWhole_39 (fun H locs hw => ?_)
      refine lv_pop2_2 hx hb dX8_commonWhole_42 rfl ?_
      cases h
      exact kr _ _ _ _ dX8_commonWhole_43 hw
    clear h
    replace h := j7
    clear j7
    refine lv_if_ge (tgt := 32) hx hb dX8_commonWhole_25 (by decide) (fun hc => ?_) (fun hc => ?_)
    · replace h := ite_t hc h
      refine lv_iload_n hx hb dX8_commonWhole_32 rfl (lv_at hl 1 rfl) ?_
      cases h
      exact kj _ _ _ (lv_sub hl [0, 3] rfl) hw
    · replace h := ite_f hc h
      refine lv_iload_n hx hb dX8_commonWhole_28 rfl (lv_at hl 2 rfl) ?_
      refine lv_goto (tgt := 33) hx hb dX8_commonWhole_29 (by decide) ?_
      cases h
      exact kj _ _ _ (lv_sub hl [0, 3] rfl) hw
  · replace h := ite_f hc h
    refine lv_aload_n hx hb dX8_commonWhole_9 rfl (lv_at hl 0 rfl) ?_
    refine m_get (k := 36) (C := RX8) (T := TX8) (N := 18) (ref := "LiftFactorsModel") (v := .ref (adr 42)) hx hb hi hts inX8_u hown hw (by decide) rfl 8 (by decide) q_1 rfl rfl dX8_commonWhole_10 ?_
    refine lv_iload_n hx hb dX8_commonWhole_13 rfl (lv_at hl 2 rfl) ?_
    replace h := bnd h
    obtain ⟨v8, e8, h⟩ := h
    refine m_iald hx hb hi hw e8 dX8_commonWhole_14 ?_
    refine lv_if_ge (tgt := 44) hx hb dX8_commonWhole_15 (by decide) (fun hc => ?_) (fun hc => ?_)
    · replace h := ite_t hc h
      refine lv_aload_n hx hb dX8_commonWhole_44 rfl (lv_at hl 0 rfl) ?_
      refine m_get (k := 36) (C := RX8) (T := TX8) (N := 18) (ref := "LiftFactorsModel") (v := .ref (adr 41)) hx hb hi hts inX8_u hown hw (by decide) rfl 7 (by decide) q_0 rfl rfl dX8_commonWhole_45 ?_
      refine lv_bipush (v := (24 : Int32)) hx hb dX8_commonWhole_48 (by decide) ?_
      refine lv_iload_n hx hb dX8_commonWhole_50 rfl (lv_at hl 1 rfl) ?_
      refine lv_imul hx hb dX8_commonWhole_51 ?_
      refine lv_aload_n hx hb dX8_commonWhole_52 rfl (lv_at hl 0 rfl) ?_
      refine m_get (k := 36) (C := RX8) (T := TX8) (N := 18) (ref := "LiftFactorsModel") (v := .ref (adr 42)) hx hb hi hts inX8_u hown hw (by decide) rfl 8 (by decide) q_1 rfl rfl dX8_commonWhole_53 ?_
      refine lv_iload_n hx hb dX8_commonWhole_56 rfl (lv_at hl 1 rfl) ?_
      replace h := bnd h
      obtain ⟨v9, e9, h⟩ := h
      refine m_iald hx hb hi hw e9 dX8_commonWhole_57 ?_
      refine lv_iadd hx hb dX8_commonWhole_58 ?_
      replace h := bnd h
      obtain ⟨v10, e10, h⟩ := h
      refine m_lald hx hb hi hw e10 dX8_commonWhole_59 ?_
      refine lv_aload_n hx hb dX8_commonWhole_60 rfl (lv_at hl 0 rfl) ?_
      refine m_get (k := 36) (C := RX8) (T := TX8) (N := 18) (ref := "LiftFactorsModel") (v := .ref (adr 41)) hx hb hi hts inX8_u hown hw (by decide) rfl 7 (by decide) q_0 rfl rfl dX8_commonWhole_61 ?_
      refine lv_bipush (v := (24 : Int32)) hx hb dX8_commonWhole_64 (by decide) ?_
      refine lv_iload_n hx hb dX8_commonWhole_66 rfl (lv_at hl 2 rfl) ?_
      refine lv_imul hx hb dX8_commonWhole_67 ?_
      refine lv_aload_n hx hb dX8_commonWhole_68 rfl (lv_at hl 0 rfl) ?_
      refine m_get (k := 36) (C := RX8) (T := TX8) (N := 18) (ref := "LiftFactorsModel") (v := .ref (adr 42)) hx hb hi hts inX8_u hown hw (by decide) rfl 8 (by decide) q_1 rfl rfl dX8_commonWhole_69 ?_
      refine lv_iload_n hx hb dX8_commonWhole_72 rfl (lv_at hl 2 rfl) ?_
      replace h := bnd h
      obtain ⟨v11, e11, h⟩ := h
      refine m_iald hx hb hi hw e11 dX8_commonWhole_73 ?_
      refine lv_iadd hx hb dX8_commonWhole_74 ?_
      replace h := bnd h
      obtain ⟨v12, e12, h⟩ := h
      refine m_lald hx hb hi hw e12 dX8_commonWhole_75 ?_
      replace h := bnd h
      obtain ⟨v13, e13, h⟩ := h
      refine m_callSl (As := [.long v10, .long v12]) (rest := []) cx.fix hw (cc_X8_common (l := l) (G := G) (sz := H.size) (M := M) hi e13) (w_cS 2 hts q_6 q_7 q_8 q_9 rfl rfl (by decide) (by decide)) hl.1 rfl (lv_room (Nat.le_of_ble_eq_true rfl)) dX8_commonWhole_76 (fun H locs hw => ?_)
      refine lv_lstore (lv' := [(4, .long v13), (0, .ref (adr 36)), (1, .int a0), (2, .int a1), (3, .int a2)]) hx hb dX8_commonWhole_79 hl (by decide) rfl (fun ls hl => ?_)
      refine lv_iconst (v := (0 : Int32)) hx hb dX8_commonWhole_81 (by decide) ?_
      refine lv_istore (lv' := [(6, .int (0 : Int32)), (4, .long v13), (0, .ref (adr 36)), (1, .int a0), (2, .int a1), (3, .int a2)]) hx hb dX8_commonWhole_82 hl (by decide) rfl (fun ls hl => ?_)
      replace h := bnd h
      obtain ⟨o41, j39, h⟩ := h
      refine lp_W (Wst := fun (st : Mem × Int32) => ∀ (ls : Array Slot) (H : Heap) (locs : List Loc), lv_has ls 8 [(0, .ref (adr 36)), (1, .int a0), (2, .int a1), (3, .int a2), (4, .long v13), (6, .int st.2)] → wH G A s.heap s (LL adr) (wf G adr st.1) H locs → W p l e { frames := 4, cells := 0, slots := 0, locals := 106 } s m args below meth c H locs 0 0 Q (F0 m 84 ls [])) (fin := fun (r : (Mem) ⊕ (Mem)) => match r with
      | .inl o => ∀ (pc : Nat) (ls : Array Slot) (H : Heap) (locs : List Loc), decode cX8_commonWhole pc = .ok (.return_, 1) → wH G A s.heap s (LL adr) (wf G adr o) H locs → W p l e { frames := 4, cells := 0, slots := 0, locals := 106 } s m args below meth c H locs 0 0 Q (F0 m pc ls [])
      | .inr q => ∀ (ls : Array Slot) (H : Heap) (locs : List Loc), lv_has ls 8 [] → wH G A s.heap s (LL adr) (wf G adr q) H locs → W p l e { frames := 4, cells := 0, slots := 0, locals := 106 } s m args below meth c H locs 0 0 Q (F0 m 235 ls [])) ?_ n _ _ j39 ?_ _ _ _ (lv_sub hl [2, 3, 4, 5, 1, 0] rfl) hw
      · clear h j39 hw hl
        intro ⟨M14, v15⟩ x h k1 k2 ls H locs hl hw
        (try dsimp only at k2 hl hw ⊢)
        unfold l_X8_commonWhole_84 at h
        (try dsimp only at h)
        refine lv_iload hx hb dX8_commonWhole_84 (lv_at hl 5 rfl) ?_
        refine lv_aload_n hx hb dX8_commonWhole_86 rfl (lv_at hl 0 rfl) ?_
        refine m_get (k := 36) (C := RX8) (T := TX8) (N := 18) (ref := "LiftFactorsModel") (v := .ref (adr 37)) hx hb hi hts inX8_u hown hw (by decide) rfl 0 (by decide) q_63 rfl rfl dX8_commonWhole_87 ?_
        replace h := bnd h
        obtain ⟨v16, e16, h⟩ := h
        refine m_len hx hb hi hw e16 dX8_commonWhole_90 ?_
        refine lv_icmp_ge (tgt := 235) hx hb dX8_commonWhole_91 (by decide) (fun hc => ?_) (fun hc => ?_)
        · replace h := ite_t hc h
          cases h
          exact k1 _ rfl _ _ _ (lv_sub hl [] rfl) hw
        · replace h := ite_f hc h
          refine lv_aload_n hx hb dX8_commonWhole_94 rfl (lv_at hl 0 rfl) ?_
          refine lv_iload hx hb dX8_commonWhole_95 (lv_at hl 5 rfl) ?_
          replace h := bnd h
          obtain ⟨v17, e17, h⟩ := h
          refine m_callVv (k := 36) (As := [.int v15]) (rest := []) cx.fix hi hw (cc_X8_takePrime (l := l) (G := G) (sz := H.size) hi e17) (by decide) rfl rfl (w_cV 1 hts q_69 q_70 q_71 q_72 q_73 rfl rfl (by decide) (by decide)) hl.1 rfl (lv_room (Nat.le_of_ble_eq_true rfl)) dX8_commonWhole_97 (fun H locs hw => ?_)
          refine lv_aload_n hx hb dX8_commonWhole_100 rfl (lv_at hl 0 rfl) ?_
          refine lv_iload_n hx hb dX8_commonWhole_101 rfl (lv_at hl 1 rfl) ?_
          refine lv_iconst (v := (5 : Int32)) hx hb dX8_commonWhole_102 (by decide) ?_
          replace h := bnd h
          obtain ⟨v18, e18, h⟩ := h
          refine m_callVv (k := 36) (As := [.int a0, .int (5 : Int32)]) (rest := []) cx.fix hi hw (cc_X8_copy (l := l) (G := G) (sz := H.size) hi e18) (by decide) rfl rfl (w_cV 2 hts q_24 q_25 q_26 q_27 q_28 rfl rfl (by decide) (by decide)) hl.1 rfl (lv_room (Nat.le_of_ble_eq_true rfl)) dX8_commonWhole_103 (fun H locs hw => ?_)
          refine lv_aload_n hx hb dX8_commonWhole_106 rfl (lv_at hl 0 rfl) ?_
          refine lv_iload_n hx hb dX8_commonWhole_107 rfl (lv_at hl 2 rfl) ?_
          refine lv_bipush (v := (6 : Int32)) hx hb dX8_commonWhole_108 (by decide) ?_
          replace h := bnd h
          obtain ⟨v19, e19, h⟩ := h
          refine m_callVv (k := 36) (As := [.int a1, .int (6 : Int32)]) (rest := []) cx.fix hi hw (cc_X8_copy (l := l) (G := G) (sz := H.size) hi e19) (by decide) rfl rfl (w_cV 2 hts q_24 q_25 q_26 q_27 q_28 rfl rfl (by decide) (by decide)) hl.1 rfl (lv_room (Nat.le_of_ble_eq_true rfl)) dX8_commonWhole_110 (fun H locs hw => ?_)
          refine lv_aload_n hx hb dX8_commonWhole_113 rfl (lv_at hl 0 rfl) ?_
          refine lv_iconst (v := (5 : Int32)) hx hb dX8_commonWhole_114 (by decide) ?_
          replace h := bnd h
          obtain ⟨v20, e20, h⟩ := h
          refine m_callVv (k := 36) (As := [.int (5 : Int32)]) (rest := []) cx.fix hi hw (cc_X8_reduce (l := l) (G := G) (sz := H.size) hi e20) (by decide) rfl rfl (w_cV 1 hts q_74 q_75 q_76 q_77 q_78 rfl rfl (by decide) (by decide)) hl.1 rfl (lv_room (Nat.le_of_ble_eq_true rfl)) dX8_commonWhole_115 (fun H locs hw => ?_)
          refine lv_aload_n hx hb dX8_commonWhole_118 rfl (lv_at hl 0 rfl) ?_
          refine lv_bipush (v := (6 : Int32)) hx hb dX8_commonWhole_119 (by decide) ?_
          replace h := bnd h
          obtain ⟨v21, e21, h⟩ := h
          refine m_callVv (k := 36) (As := [.int (6 : Int32)]) (rest := []) cx.fix hi hw (cc_X8_reduce (l := l) (G := G) (sz := H.size) hi e21) (by decide) rfl rfl (w_cV 1 hts q_74 q_75 q_76 q_77 q_78 rfl rfl (by decide) (by decide)) hl.1 rfl (lv_room (Nat.le_of_ble_eq_true rfl)) dX8_commonWhole_121 (fun H locs hw => ?_)
          refine lv_aload_n hx hb dX8_commonWhole_124 rfl (lv_at hl 0 rfl) ?_
          refine lv_iconst (v := (5 : Int32)) hx hb dX8_commonWhole_125 (by decide) ?_
          refine lv_bipush (v := (6 : Int32)) hx hb dX8_commonWhole_126 (by decide) ?_
          refine lv_bipush (v := (7 : Int32)) hx hb dX8_commonWhole_128 (by decide) ?_
          replace h := bnd h
          obtain ⟨v22, e22, h⟩ := h
          refine m_callVv (k := 36) (As := [.int (5 : Int32), .int (6 : Int32), .int (7 : Int32)]) (rest := []) cx.fix hi hw (cc_X8_commonRow (l := l) (G := G) (sz := H.size) hi e22) (by decide) rfl rfl (w_cV 3 hts q_79 q_80 q_81 q_82 q_83 rfl rfl (by decide) (by decide)) hl.1 rfl (lv_room (Nat.le_of_ble_eq_true rfl)) dX8_commonWhole_130 (fun H locs hw => ?_)
          refine lv_iconst (v := (0 : Int32)) hx hb dX8_commonWhole_133 (by decide) ?_
          refine lv_istore (lv' := [(7, .int (0 : Int32)), (0, .ref (adr 36)), (1, .int a0), (2, .int a1), (3, .int a2), (4, .long v13), (6, .int v15)]) hx hb dX8_commonWhole_134 hl (by decide) rfl (fun ls hl => ?_)
          replace h := bnd h
          obtain ⟨M30, j29, h⟩ := h
          refine lp_W (Wst := fun (st : Mem × Int32) => ∀ (ls : Array Slot) (H : Heap) (locs : List Loc), lv_has ls 8 [(0, .ref (adr 36)), (1, .int a0), (2, .int a1), (3, .int a2), (4, .long v13), (6, .int v15), (7, .int st.2)] → wH G A s.heap s (LL adr) (wf G adr st.1) H locs → W p l e { frames := 4, cells := 0, slots := 0, locals := 106 } s m args below meth c H locs 0 0 Q (F0 m 136 ls [])) (fin := fun (r : Mem) => ∀ (ls : Array Slot) (H : Heap) (locs : List Loc), lv_has ls 8 [(0, .ref (adr 36)), (1, .int a0), (2, .int a1), (3, .int a2), (4, .long v13), (6, .int v15)] → wH G A s.heap s (LL adr) (wf G adr r) H locs → W p l e { frames := 4, cells := 0, slots := 0, locals := 106 } s m args below meth c H locs 0 0 Q (F0 m 182 ls [])) ?_ n _ _ j29 ?_ _ _ _ (lv_sub hl [1, 2, 3, 4, 5, 6, 0] rfl) hw
          · clear h j29 hw hl
            intro ⟨M23, v24⟩ x h k1 k2 ls H locs hl hw
            (try dsimp only at k1 k2 hl hw ⊢)
            unfold l_X8_commonWhole_136 at h
            (try dsimp only at h)
            refine lv_iload hx hb dX8_commonWhole_136 (lv_at hl 6 rfl) ?_
            refine lv_aload_n hx hb dX8_commonWhole_138 rfl (lv_at hl 0 rfl) ?_
            refine m_get (k := 36) (C := RX8) (T := TX8) (N := 18) (ref := "LiftFactorsModel") (v := .ref (adr 42)) hx hb hi hts inX8_u hown hw (by decide) rfl 8 (by decide) q_1 rfl rfl dX8_commonWhole_139 ?_
            refine lv_bipush (v := (7 : Int32)) hx hb dX8_commonWhole_142 (by decide) ?_
            replace h := bnd h
            obtain ⟨v25, e25, h⟩ := h
            refine m_iald hx hb hi hw e25 dX8_commonWhole_144 ?_
            refine lv_icmp_gt (tgt := 182) hx hb dX8_commonWhole_145 (by decide) (fun hc => ?_) (fun hc => ?_)
            · replace h := ite_t hc h
              cases h
              exact k1 _ rfl _ _ _ (lv_sub hl [0, 1, 2, 3, 4, 5] rfl) hw
            · replace h := ite_f hc h
              refine lv_aload_n hx hb dX8_commonWhole_148 rfl (lv_at hl 0 rfl) ?_
              refine m_get (k := 36) (C := RX8) (T := TX8) (N := 18) (ref := "LiftFactorsModel") (v := .ref (adr 41)) hx hb hi hts inX8_u hown hw (by decide) rfl 7 (by decide) q_0 rfl rfl dX8_commonWhole_149 ?_
              refine lv_sipush (v := (168 : Int32)) hx hb dX8_commonWhole_152 (by decide) ?_
              refine lv_iload hx hb dX8_commonWhole_155 (lv_at hl 6 rfl) ?_
              refine lv_iadd hx hb dX8_commonWhole_157 ?_
              refine lv_aload_n hx hb dX8_commonWhole_158 rfl (lv_at hl 0 rfl) ?_
              refine lv_aload_n hx hb dX8_commonWhole_159 rfl (lv_at hl 0 rfl) ?_
              refine m_get (k := 36) (C := RX8) (T := TX8) (N := 18) (ref := "LiftFactorsModel") (v := .ref (adr 41)) hx hb hi hts inX8_u hown hw (by decide) rfl 7 (by decide) q_0 rfl rfl dX8_commonWhole_160 ?_
              refine lv_sipush (v := (168 : Int32)) hx hb dX8_commonWhole_163 (by decide) ?_
              refine lv_iload hx hb dX8_commonWhole_166 (lv_at hl 6 rfl) ?_
              refine lv_iadd hx hb dX8_commonWhole_168 ?_
              replace h := bnd h
              obtain ⟨v26, e26, h⟩ := h
              refine m_lald hx hb hi hw e26 dX8_commonWhole_169 ?_
              refine lv_lload hx hb dX8_commonWhole_170 (lv_at hl 4 rfl) ?_
              replace h := bnd h
              obtain ⟨v27, e27, h⟩ := h
              refine m_callVl (k := 36) (As := [.long v26, .long v13]) (rest := [.int ((168 : Int32) + v24), .ref (adr 41)]) cx.fix hi hw (cc_X8_product (l := l) (G := G) (sz := H.size) hi e27) (by decide) rfl rfl (w_cV 2 hts q_31 q_32 q_33 q_34 q_35 rfl rfl (by decide) (by decide)) hl.1 rfl (lv_room (Nat.le_of_ble_eq_true rfl)) dX8_commonWhole_172 (fun H locs hw => ?_)
              replace h := bnd h
              obtain ⟨v28, e28, h⟩ := h
              refine m_last hx hb hi hw e28 dX8_commonWhole_175 (fun H locs hw => ?_)
              refine lv_iinc (v := v24 + 1) (lv' := [(7, .int (v24 + 1)), (0, .ref (adr 36)), (1, .int a0), (2, .int a1), (3, .int a2), (4, .long v13), (6, .int v15)]) hx hb dX8_commonWhole_176 hl (k := 6) rfl (inc_p _ (by decide)) (by decide) rfl (fun ls hl => ?_)
              refine lv_goto (tgt := 136) hx hb dX8_commonWhole_179 (by decide) ?_
              cases h
              exact k2 _ rfl _ _ _ (lv_sub hl [1, 2, 3, 4, 5, 6, 0] rfl) hw
          · clear hw hl
            intro ls H locs hl hw
            (try dsimp only at hl hw ⊢)
            refine lv_aload_n hx hb dX8_commonWhole_182 rfl (lv_at hl 0 rfl) ?_
            refine lv_bipush (v := (7 : Int32)) hx hb dX8_commonWhole_183 (by decide) ?_
            replace h := bnd h
            obtain ⟨v31, e31, h⟩ := h
            refine m_callVv (k := 36) (As := [.int (7 : Int32)]) (rest := []) cx.fix hi hw (cc_X8_center (l := l) (G := G) (sz := H.size) hi e31) (by decide) rfl rfl (w_cV 1 hts q_84 q_85 q_86 q_87 q_88 rfl rfl (by decide) (by decide)) hl.1 rfl (lv_room (Nat.le_of_ble_eq_true rfl)) dX8_commonWhole_185 (fun H locs hw => ?_)
            refine lv_aload_n hx hb dX8_commonWhole_188 rfl (lv_at hl 0 rfl) ?_
            refine lv_bipush (v := (7 : Int32)) hx hb dX8_commonWhole_189 (by decide) ?_
            replace h := bnd h
            obtain ⟨⟨v32, M33⟩, e32, h⟩ := h
            refine m_callVl (k := 36) (As := [.int (7 : Int32)]) (rest := []) cx.fix hi hw (cc_X8_primitive (l := l) (G := G) (sz := H.size) hi e32) (by decide) rfl rfl (w_cV 1 hts q_64 q_65 q_66 q_67 q_68 rfl rfl (by decide) (by decide)) hl.1 rfl (lv_room (Nat.le_of_ble_eq_true rfl)) dX8_commonWhole_191 (fun H locs hw => ?_)
            refine lv_pop2_2 hx hb dX8_commonWhole_194 rfl ?_
            refine lv_aload_n hx hb dX8_commonWhole_195 rfl (lv_at hl 0 rfl) ?_
            refine lv_bipush (v := (7 : Int32)) hx hb dX8_commonWhole_196 (by decide) ?_
            refine lv_iload_n hx hb dX8_commonWhole_198 rfl (lv_at hl 1 rfl) ?_
            refine lv_ldc2 (v := (400000000 : Int64)) hx hb hown (hts _ q_89) dX8_commonWhole_199 ?_
            replace h := bnd h
            obtain ⟨⟨v34, M35⟩, e34, h⟩ := h
            refine m_callVi (k := 36) (As := [.int (7 : Int32), .int a0, .long (400000000 : Int64)]) (rest := []) cx.fix hi hw (cc_X8_divides (l := l) (G := G) (sz := H.size) hi e34) (by decide) rfl rfl (w_cV 3 hts q_90 q_91 q_92 q_93 q_94 rfl rfl (by decide) (by decide)) hl.1 rfl (lv_room (Nat.le_of_ble_eq_true rfl)) dX8_commonWhole_202 (fun H locs hw => ?_)
            refine lv_if_eq (tgt := 229) hx hb dX8_commonWhole_205 (by decide) (fun hc => ?_) (fun hc => ?_)
            · replace h := ite_t hc h
              refine lv_iinc (v := v15 + 1) (lv' := [(6, .int (v15 + 1)), (0, .ref (adr 36)), (1, .int a0), (2, .int a1), (3, .int a2), (4, .long v13)]) hx hb dX8_commonWhole_229 hl (k := 5) rfl (inc_p _ (by decide)) (by decide) rfl (fun ls hl => ?_)
              refine lv_goto (tgt := 84) hx hb dX8_commonWhole_232 (by decide) ?_
              cases h
              exact k2 _ rfl _ _ _ (lv_sub hl [1, 2, 3, 4, 5, 0] rfl) hw
            · replace h := ite_f hc h
              refine lv_aload_n hx hb dX8_commonWhole_208 rfl (lv_at hl 0 rfl) ?_
              refine lv_bipush (v := (7 : Int32)) hx hb dX8_commonWhole_209 (by decide) ?_
              refine lv_iload_n hx hb dX8_commonWhole_211 rfl (lv_at hl 2 rfl) ?_
              refine lv_ldc2 (v := (400000000 : Int64)) hx hb hown (hts _ q_89) dX8_commonWhole_212 ?_
              replace h := bnd h
              obtain ⟨⟨v36, M37⟩, e36, h⟩ := h
              refine m_callVi (k := 36) (As := [.int (7 : Int32), .int a1, .long (400000000 : Int64)]) (rest := []) cx.fix hi hw (cc_X8_divides (l := l) (G := G) (sz := H.size) hi e36) (by decide) rfl rfl (w_cV 3 hts q_90 q_91 q_92 q_93 q_94 rfl rfl (by decide) (by decide)) hl.1 rfl (lv_room (Nat.le_of_ble_eq_true rfl)) dX8_commonWhole_215 (fun H locs hw => ?_)
              refine lv_if_eq (tgt := 229) hx hb dX8_commonWhole_218 (by decide) (fun hc => ?_) (fun hc => ?_)
              · replace h := ite_t hc h
                refine lv_iinc (v := v15 + 1) (lv' := [(6, .int (v15 + 1)), (0, .ref (adr 36)), (1, .int a0), (2, .int a1), (3, .int a2), (4, .long v13)]) hx hb dX8_commonWhole_229 hl (k := 5) rfl (inc_p _ (by decide)) (by decide) rfl (fun ls hl => ?_)
                refine lv_goto (tgt := 84) hx hb dX8_commonWhole_232 (by decide) ?_
                cases h
                exact k2 _ rfl _ _ _ (lv_sub hl [1, 2, 3, 4, 5, 0] rfl) hw
              · replace h := ite_f hc h
                refine lv_aload_n hx hb dX8_commonWhole_221 rfl (lv_at hl 0 rfl) ?_
                refine lv_bipush (v := (7 : Int32)) hx hb dX8_commonWhole_222 (by decide) ?_
                refine lv_iload_n hx hb dX8_commonWhole_224 rfl (lv_at hl 3 rfl) ?_
                replace h := bnd h
                obtain ⟨v38, e38, h⟩ := h
                refine m_callVv (k := 36) (As := [.int (7 : Int32), .int a2]) (rest := []) cx.fix hi hw (cc_X8_copy (l := l) (G := G) (sz := H.size) hi e38) (by decide) rfl rfl (w_cV 2 hts q_24 q_25 q_26 q_27 q_28 rfl rfl (by decide) (by decide)) hl.1 rfl (lv_room (Nat.le_of_ble_eq_true rfl)) dX8_commonWhole_225 (fun H locs hw => ?_)
                cases h
                exact k1 _ rfl _ _ _ _ dX8_commonWhole_228 hw
      · clear hw hl j39
        rcases o41 with o9 | M40
        · cases h
          exact kr
        · intro ls H locs hl hw
          (try dsimp only at h hl hw ⊢)
          cases h
          exact kr _ _ _ _ dX8_commonWhole_235 hw
    · replace h := ite_f hc h
      refine lv_aload_n hx hb dX8_commonWhole_18 rfl (lv_at hl 0 rfl) ?_
      refine lv_aload_n hx hb dX8_commonWhole_19 rfl (lv_at hl 0 rfl) ?_
      refine m_get (k := 36) (C := RX8) (T := TX8) (N := 18) (ref := "LiftFactorsModel") (v := .ref (adr 42)) hx hb hi hts inX8_u hown hw (by decide) rfl 8 (by decide) q_1 rfl rfl dX8_commonWhole_20 ?_
      refine lv_iload_n hx hb dX8_commonWhole_23 rfl (lv_at hl 1 rfl) ?_
      replace h := bnd h
      obtain ⟨v42, e42, h⟩ := h
      refine m_iald hx hb hi hw e42 dX8_commonWhole_24 ?_
      replace h := bnd h
      obtain ⟨v43, j47, h⟩ := h
      have kj : ∀ (ls : Array Slot) (H : Heap) (locs : List Loc), lv_has ls 8 [(0, .ref (adr 36)), (3, .int a2)] → wH G A s.heap s (LL adr) (wf G adr M) H locs → W p l e { frames := 4, cells := 0, slots := 0, locals := 106 } s m args below meth c H locs 0 0 Q (F0 m 33 ls [.int v43, .ref (adr 36)]) := by
        intro ls H locs hl hw
        refine lv_iload_n hx hb dX8_commonWhole_33 rfl (lv_at hl 1 rfl) ?_
        replace h := bnd h
        obtain ⟨v44, e44, h⟩ := h
        refine m_callVv (k := 36) (As := [.int v43, .int a2]) (rest := []) cx.fix hi hw (cc_X8_copy (l := l) (G := G) (sz := H.size) hi e44) (by decide) rfl rfl (w_cV 2 hts q_24 q_25 q_26 q_27 q_28 rfl rfl (by decide) (by decide)) hl.1 rfl (lv_room (Nat.le_of_ble_eq_true rfl)) dX8_commonWhole_34 (fun H locs hw => ?_)
        refine lv_aload_n hx hb dX8_commonWhole_37 rfl (lv_at hl 0 rfl) ?_
        refine lv_iload_n hx hb dX8_commonWhole_38 rfl (lv_at hl 1 rfl) ?_
        replace h := bnd h
        obtain ⟨⟨v45, M46⟩, e45, h⟩ := h
        refine m_callVl (k := 36) (As := [.int a2]) (rest := []) cx.fix hi hw (cc_X8_primitive (l := l) (G := G) (sz := H.size) hi e45) (by decide) rfl rfl (w_cV 1 hts q_64 q_65 q_66 q_67 q_68 rfl rfl (by decide) (by decide)) hl.1 rfl (lv_room (Nat.le_of_ble_eq_true rfl)) dX8_commonWhole_39 (fun H locs hw => ?_)
        refine lv_pop2_2 hx hb dX8_commonWhole_42 rfl ?_
        cases h
        exact kr _ _ _ _ dX8_commonWhole_43 hw
      clear h
      replace h := j47
      clear j47
      refine lv_if_ge (tgt := 32) hx hb dX8_commonWhole_25 (by decide) (fun hc => ?_) (fun hc => ?_)
      · replace h := ite_t hc h
        refine lv_iload_n hx hb dX8_commonWhole_32 rfl (lv_at hl 1 rfl) ?_
        cases h
        exact kj _ _ _ (lv_sub hl [0, 3] rfl) hw
      · replace h := ite_f hc h
        refine lv_iload_n hx hb dX8_commonWhole_28 rfl (lv_at hl 2 rfl) ?_
        refine lv_goto (tgt := 33) hx hb dX8_commonWhole_29 (by decide) ?_
        cases h
        exact kj _ _ _ (lv_sub hl [0, 3] rfl) hw
theorem cc_X8_commonWhole {l : Launch} {G : gG} {adr : Nat → Nat} {sz : Nat} (hi : adi adr) {n : Nat} {a0 : Int32} {a1 : Int32} {a2 : Int32} {M M' : Mem} (h : f_X8_commonWhole n a0 a1 a2 M = some M') : mV l yX8_commonWhole cX8_commonWhole 8 none { frames := 4, cells := 0, slots := 0, locals := 106 } G adr [.ref (adr 36), .int a0, .int a1, .int a2] M sz M' := by
  refine wEnter (by decide) (Nat.le_of_ble_eq_true rfl) ?_
  intro p e s m below meth c ls cx hinit hl hsz hw
  exact b_X8_commonWhole cx hi h (fun pc ls H locs hd hw => w_vret (post := fun (u : Mem) => u = M') (lf := fun u => (LL adr, wf G adr u)) cx.1 cx.2.1 cx.2.2.1 cx.2.2.2.2.2.2 M' hw rfl hd) hl hw
theorem q_95 : Cond.fieldLink RX8 129 "LiftFactorsModel" "parts" "I" ∈ uU := uU_in (by decide +kernel) (by decide +kernel)
def f_X8_addPart (n : Nat) (a0 : Int32) (M : Mem) : Option Mem :=
  Option.bind (f_X8_copy n a0 ((24 : Int32) + (M.2 36 10)) M) fun v1 =>
  Option.bind (ptI v1 36 10 ((v1.2 36 10) + (1 : Int32))) fun v2 =>
  some v2
set_option maxRecDepth 100000 in
set_option maxHeartbeats 8000000 in
theorem b_X8_addPart {p : Program} {l : Launch} {e : Env} {s : State} {m : MethodId} {args : Array Value} {below : List Frame} {meth : Method} {c : Code} {Q : State → Prop} {G : gG} {A : Nat → Prop} {adr : Nat → Nat} (cx : cX p s m args meth c cX8_addPart none 2 yX8_addPart.cls) (hi : adi adr) {n : Nat} {a0 : Int32} {M M' : Mem} 
    (h : f_X8_addPart n a0 M = some M')
    (kr : ∀ (pc : Nat) (ls : Array Slot) (H : Heap) (locs : List Loc), decode cX8_addPart pc = .ok (.return_, 1) → wH G A s.heap s (LL adr) (wf G adr M') H locs → W p l e { frames := 1, cells := 0, slots := 0, locals := 23 } s m args below meth c H locs 0 0 Q (F0 m pc ls []))
    {ls : Array Slot} {H : Heap} {locs : List Loc} (hl : lv_has ls 2 [(0, .ref (adr 36)), (1, .int a0)]) (hw : wH G A s.heap s (LL adr) (wf G adr M) H locs) : W p l e { frames := 1, cells := 0, slots := 0, locals := 23 } s m args below meth c H locs 0 0 Q (F0 m 0 ls []) := by
  obtain ⟨hx, hb, -, -, hown, hts, -⟩ := id cx
  have hown : s.vm.findClass RX8 = some m.cls := hown
  unfold f_X8_addPart at h
  refine lv_aload_n hx hb dX8_addPart_0 rfl (lv_at hl 0 rfl) ?_
  refine lv_iload_n hx hb dX8_addPart_1 rfl (lv_at hl 1 rfl) ?_
  refine lv_bipush (v := (24 : Int32)) hx hb dX8_addPart_2 (by decide) ?_
  refine lv_aload_n hx hb dX8_addPart_4 rfl (lv_at hl 0 rfl) ?_
  refine m_get (k := 36) (C := RX8) (T := TX8) (N := 18) (ref := "LiftFactorsModel") (v := .int (M.2 36 10)) hx hb hi hts inX8_u hown hw (by decide) rfl 10 (by decide) q_95 rfl rfl dX8_addPart_5 ?_
  refine lv_iadd hx hb dX8_addPart_8 ?_
  replace h := bnd h
  obtain ⟨v1, e1, h⟩ := h
  refine m_callVv (k := 36) (As := [.int a0, .int ((24 : Int32) + (M.2 36 10))]) (rest := []) cx.fix hi hw (cc_X8_copy (l := l) (G := G) (sz := H.size) hi e1) (by decide) rfl rfl (w_cV 2 hts q_24 q_25 q_26 q_27 q_28 rfl rfl (by decide) (by decide)) hl.1 rfl (lv_room (Nat.le_of_ble_eq_true rfl)) dX8_addPart_9 (fun H locs hw => ?_)
  refine lv_aload_n hx hb dX8_addPart_12 rfl (lv_at hl 0 rfl) ?_
  refine lv_dup hx hb dX8_addPart_13 rfl ?_
  refine m_get (k := 36) (C := RX8) (T := TX8) (N := 18) (ref := "LiftFactorsModel") (v := .int (v1.2 36 10)) hx hb hi hts inX8_u hown hw (by decide) rfl 10 (by decide) q_95 rfl rfl dX8_addPart_14 ?_
  refine lv_iconst (v := (1 : Int32)) hx hb dX8_addPart_17 (by decide) ?_
  refine lv_iadd hx hb dX8_addPart_18 ?_
  replace h := bnd h
  obtain ⟨v2, e2, h⟩ := h
  obtain rfl := pt_s e2
  refine m_putI (k := 36) (C := RX8) (T := TX8) (N := 18) (ref := "LiftFactorsModel") hx hb hi hts inX8_u tyX8 tyX8_ok nmX8 hown hw (by decide) rfl 10 (by decide) q_95 rfl rfl (by decide +kernel) rfl dX8_addPart_19 (fun H locs hw => ?_)
  obtain ⟨v2, e2⟩ : ∃ z9, z9 = sI v1 36 10 ((v1.2 36 10) + (1 : Int32)) := ⟨_, rfl⟩
  rw [← e2] at h hw
  cases h
  exact kr _ _ _ _ dX8_addPart_22 hw
theorem cc_X8_addPart {l : Launch} {G : gG} {adr : Nat → Nat} {sz : Nat} (hi : adi adr) {n : Nat} {a0 : Int32} {M M' : Mem} (h : f_X8_addPart n a0 M = some M') : mV l yX8_addPart cX8_addPart 2 none { frames := 1, cells := 0, slots := 0, locals := 23 } G adr [.ref (adr 36), .int a0] M sz M' := by
  refine wEnter (by decide) (Nat.le_of_ble_eq_true rfl) ?_
  intro p e s m below meth c ls cx hinit hl hsz hw
  exact b_X8_addPart cx hi h (fun pc ls H locs hd hw => w_vret (post := fun (u : Mem) => u = M') (lf := fun u => (LL adr, wf G adr u)) cx.1 cx.2.1 cx.2.2.1 cx.2.2.2.2.2.2 M' hw rfl hd) hl hw
def f_X8_letter (a0 : Int32) (M : Mem) : Option Mem :=
  Option.bind (stJ M 41 ((24 : Int32) * a0) (0 : Int64)) fun v1 =>
  Option.bind (stJ v1 41 (((24 : Int32) * a0) + (1 : Int32)) (1 : Int64)) fun v2 =>
  Option.bind (stI v2 42 a0 (1 : Int32)) fun v3 =>
  some v3
set_option maxRecDepth 100000 in
set_option maxHeartbeats 8000000 in
theorem b_X8_letter {p : Program} {l : Launch} {e : Env} {s : State} {m : MethodId} {args : Array Value} {below : List Frame} {meth : Method} {c : Code} {Q : State → Prop} {G : gG} {A : Nat → Prop} {adr : Nat → Nat} (cx : cX p s m args meth c cX8_letter none 2 yX8_letter.cls) (hi : adi adr) {a0 : Int32} {M M' : Mem} 
    (h : f_X8_letter a0 M = some M')
    (kr : ∀ (pc : Nat) (ls : Array Slot) (H : Heap) (locs : List Loc), decode cX8_letter pc = .ok (.return_, 1) → wH G A s.heap s (LL adr) (wf G adr M') H locs → W p l e { frames := 0, cells := 0, slots := 0, locals := 0 } s m args below meth c H locs 0 0 Q (F0 m pc ls []))
    {ls : Array Slot} {H : Heap} {locs : List Loc} (hl : lv_has ls 2 [(0, .ref (adr 36)), (1, .int a0)]) (hw : wH G A s.heap s (LL adr) (wf G adr M) H locs) : W p l e { frames := 0, cells := 0, slots := 0, locals := 0 } s m args below meth c H locs 0 0 Q (F0 m 0 ls []) := by
  obtain ⟨hx, hb, -, -, hown, hts, -⟩ := id cx
  have hown : s.vm.findClass RX8 = some m.cls := hown
  unfold f_X8_letter at h
  refine lv_aload_n hx hb dX8_letter_0 rfl (lv_at hl 0 rfl) ?_
  refine m_get (k := 36) (C := RX8) (T := TX8) (N := 18) (ref := "LiftFactorsModel") (v := .ref (adr 41)) hx hb hi hts inX8_u hown hw (by decide) rfl 7 (by decide) q_0 rfl rfl dX8_letter_1 ?_
  refine lv_bipush (v := (24 : Int32)) hx hb dX8_letter_4 (by decide) ?_
  refine lv_iload_n hx hb dX8_letter_6 rfl (lv_at hl 1 rfl) ?_
  refine lv_imul hx hb dX8_letter_7 ?_
  refine lv_lconst (v := (0 : Int64)) hx hb dX8_letter_8 (by decide) ?_
  replace h := bnd h
  obtain ⟨v1, e1, h⟩ := h
  refine m_last hx hb hi hw e1 dX8_letter_9 (fun H locs hw => ?_)
  refine lv_aload_n hx hb dX8_letter_10 rfl (lv_at hl 0 rfl) ?_
  refine m_get (k := 36) (C := RX8) (T := TX8) (N := 18) (ref := "LiftFactorsModel") (v := .ref (adr 41)) hx hb hi hts inX8_u hown hw (by decide) rfl 7 (by decide) q_0 rfl rfl dX8_letter_11 ?_
  refine lv_bipush (v := (24 : Int32)) hx hb dX8_letter_14 (by decide) ?_
  refine lv_iload_n hx hb dX8_letter_16 rfl (lv_at hl 1 rfl) ?_
  refine lv_imul hx hb dX8_letter_17 ?_
  refine lv_iconst (v := (1 : Int32)) hx hb dX8_letter_18 (by decide) ?_
  refine lv_iadd hx hb dX8_letter_19 ?_
  refine lv_lconst (v := (1 : Int64)) hx hb dX8_letter_20 (by decide) ?_
  replace h := bnd h
  obtain ⟨v2, e2, h⟩ := h
  refine m_last hx hb hi hw e2 dX8_letter_21 (fun H locs hw => ?_)
  refine lv_aload_n hx hb dX8_letter_22 rfl (lv_at hl 0 rfl) ?_
  refine m_get (k := 36) (C := RX8) (T := TX8) (N := 18) (ref := "LiftFactorsModel") (v := .ref (adr 42)) hx hb hi hts inX8_u hown hw (by decide) rfl 8 (by decide) q_1 rfl rfl dX8_letter_23 ?_
  refine lv_iload_n hx hb dX8_letter_26 rfl (lv_at hl 1 rfl) ?_
  refine lv_iconst (v := (1 : Int32)) hx hb dX8_letter_27 (by decide) ?_
  replace h := bnd h
  obtain ⟨v3, e3, h⟩ := h
  refine m_iast hx hb hi hw e3 dX8_letter_28 (fun H locs hw => ?_)
  cases h
  exact kr _ _ _ _ dX8_letter_29 hw
theorem cc_X8_letter {l : Launch} {G : gG} {adr : Nat → Nat} {sz : Nat} (hi : adi adr) {a0 : Int32} {M M' : Mem} (h : f_X8_letter a0 M = some M') : mV l yX8_letter cX8_letter 2 none { frames := 0, cells := 0, slots := 0, locals := 0 } G adr [.ref (adr 36), .int a0] M sz M' := by
  refine wEnter (by decide) (Nat.le_of_ble_eq_true rfl) ?_
  intro p e s m below meth c ls cx hinit hl hsz hw
  exact b_X8_letter cx hi h (fun pc ls H locs hd hw => w_vret (post := fun (u : Mem) => u = M') (lf := fun u => (LL adr, wf G adr u)) cx.1 cx.2.1 cx.2.2.1 cx.2.2.2.2.2.2 M' hw rfl hd) hl hw
def f_X8_addConstant (n : Nat) (a0 : Int32) (a1 : Int64) (M : Mem) : Option Mem :=
  Option.bind (ldI M 42 a0) fun v1 =>
  if 0 ≤ v1 then
    Option.bind (ldJ M 41 ((24 : Int32) * a0)) fun v2 =>
    Option.bind (rmJ (v2 + a1) (M.1 36 9)) fun v3 =>
    Option.bind (stJ M 41 ((24 : Int32) * a0) v3) fun v4 =>
    Option.bind (ldI v4 42 a0) fun v5 =>
    Option.bind (f_X8_trim n a0 v5 v4) fun v6 =>
    some v6
  else
    Option.bind (rmJ a1 (M.1 36 9)) fun v7 =>
    Option.bind (f_X8_constant a0 v7 M) fun v8 =>
    some v8
set_option maxRecDepth 100000 in
set_option maxHeartbeats 8000000 in
theorem b_X8_addConstant {p : Program} {l : Launch} {e : Env} {s : State} {m : MethodId} {args : Array Value} {below : List Frame} {meth : Method} {c : Code} {Q : State → Prop} {G : gG} {A : Nat → Prop} {adr : Nat → Nat} (cx : cX p s m args meth c cX8_addConstant none 4 yX8_addConstant.cls) (hi : adi adr) {n : Nat} {a0 : Int32} {a1 : Int64} {M M' : Mem} 
    (h : f_X8_addConstant n a0 a1 M = some M')
    (kr : ∀ (pc : Nat) (ls : Array Slot) (H : Heap) (locs : List Loc), decode cX8_addConstant pc = .ok (.return_, 1) → wH G A s.heap s (LL adr) (wf G adr M') H locs → W p l e { frames := 1, cells := 0, slots := 0, locals := 23 } s m args below meth c H locs 0 0 Q (F0 m pc ls []))
    {ls : Array Slot} {H : Heap} {locs : List Loc} (hl : lv_has ls 4 [(0, .ref (adr 36)), (1, .int a0), (2, .long a1)]) (hw : wH G A s.heap s (LL adr) (wf G adr M) H locs) : W p l e { frames := 1, cells := 0, slots := 0, locals := 23 } s m args below meth c H locs 0 0 Q (F0 m 0 ls []) := by
  obtain ⟨hx, hb, -, -, hown, hts, -⟩ := id cx
  have hown : s.vm.findClass RX8 = some m.cls := hown
  unfold f_X8_addConstant at h
  refine lv_aload_n hx hb dX8_addConstant_0 rfl (lv_at hl 0 rfl) ?_
  refine m_get (k := 36) (C := RX8) (T := TX8) (N := 18) (ref := "LiftFactorsModel") (v := .ref (adr 42)) hx hb hi hts inX8_u hown hw (by decide) rfl 8 (by decide) q_1 rfl rfl dX8_addConstant_1 ?_
  refine lv_iload_n hx hb dX8_addConstant_4 rfl (lv_at hl 1 rfl) ?_
  replace h := bnd h
  obtain ⟨v1, e1, h⟩ := h
  refine m_iald hx hb hi hw e1 dX8_addConstant_5 ?_
  refine lv_if_ge (tgt := 21) hx hb dX8_addConstant_6 (by decide) (fun hc => ?_) (fun hc => ?_)
  · replace h := ite_t hc h
    refine lv_aload_n hx hb dX8_addConstant_21 rfl (lv_at hl 0 rfl) ?_
    refine m_get (k := 36) (C := RX8) (T := TX8) (N := 18) (ref := "LiftFactorsModel") (v := .ref (adr 41)) hx hb hi hts inX8_u hown hw (by decide) rfl 7 (by decide) q_0 rfl rfl dX8_addConstant_22 ?_
    refine lv_bipush (v := (24 : Int32)) hx hb dX8_addConstant_25 (by decide) ?_
    refine lv_iload_n hx hb dX8_addConstant_27 rfl (lv_at hl 1 rfl) ?_
    refine lv_imul hx hb dX8_addConstant_28 ?_
    refine lv_aload_n hx hb dX8_addConstant_29 rfl (lv_at hl 0 rfl) ?_
    refine m_get (k := 36) (C := RX8) (T := TX8) (N := 18) (ref := "LiftFactorsModel") (v := .ref (adr 41)) hx hb hi hts inX8_u hown hw (by decide) rfl 7 (by decide) q_0 rfl rfl dX8_addConstant_30 ?_
    refine lv_bipush (v := (24 : Int32)) hx hb dX8_addConstant_33 (by decide) ?_
    refine lv_iload_n hx hb dX8_addConstant_35 rfl (lv_at hl 1 rfl) ?_
    refine lv_imul hx hb dX8_addConstant_36 ?_
    replace h := bnd h
    obtain ⟨v2, e2, h⟩ := h
    refine m_lald hx hb hi hw e2 dX8_addConstant_37 ?_
    refine lv_lload_n hx hb dX8_addConstant_38 rfl (lv_at hl 2 rfl) ?_
    refine lv_ladd hx hb dX8_addConstant_39 ?_
    refine lv_aload_n hx hb dX8_addConstant_40 rfl (lv_at hl 0 rfl) ?_
    refine m_get (k := 36) (C := RX8) (T := TX8) (N := 18) (ref := "LiftFactorsModel") (v := .long (M.1 36 9)) hx hb hi hts inX8_u hown hw (by decide) rfl 9 (by decide) q_29 rfl rfl dX8_addConstant_41 ?_
    replace h := bnd h
    obtain ⟨v3, e3, h⟩ := h
    obtain ⟨ne3, rfl⟩ := rmJ_ok e3
    refine lv_lrem hx hb dX8_addConstant_44 ne3 ?_
    obtain ⟨v3, e3⟩ : ∃ z9, z9 = (v2 + a1) - (v2 + a1) / (M.1 36 9) * (M.1 36 9) := ⟨_, rfl⟩
    rw [← e3] at h ⊢
    replace h := bnd h
    obtain ⟨v4, e4, h⟩ := h
    refine m_last hx hb hi hw e4 dX8_addConstant_45 (fun H locs hw => ?_)
    refine lv_aload_n hx hb dX8_addConstant_46 rfl (lv_at hl 0 rfl) ?_
    refine lv_iload_n hx hb dX8_addConstant_47 rfl (lv_at hl 1 rfl) ?_
    refine lv_aload_n hx hb dX8_addConstant_48 rfl (lv_at hl 0 rfl) ?_
    refine m_get (k := 36) (C := RX8) (T := TX8) (N := 18) (ref := "LiftFactorsModel") (v := .ref (adr 42)) hx hb hi hts inX8_u hown hw (by decide) rfl 8 (by decide) q_1 rfl rfl dX8_addConstant_49 ?_
    refine lv_iload_n hx hb dX8_addConstant_52 rfl (lv_at hl 1 rfl) ?_
    replace h := bnd h
    obtain ⟨v5, e5, h⟩ := h
    refine m_iald hx hb hi hw e5 dX8_addConstant_53 ?_
    replace h := bnd h
    obtain ⟨v6, e6, h⟩ := h
    refine m_callVv (k := 36) (As := [.int a0, .int v5]) (rest := []) cx.fix hi hw (cc_X8_trim (l := l) (G := G) (sz := H.size) hi e6) (by decide) rfl rfl (w_cV 2 hts q_11 q_12 q_13 q_14 q_15 rfl rfl (by decide) (by decide)) hl.1 rfl (lv_room (Nat.le_of_ble_eq_true rfl)) dX8_addConstant_54 (fun H locs hw => ?_)
    cases h
    exact kr _ _ _ _ dX8_addConstant_57 hw
  · replace h := ite_f hc h
    refine lv_aload_n hx hb dX8_addConstant_9 rfl (lv_at hl 0 rfl) ?_
    refine lv_iload_n hx hb dX8_addConstant_10 rfl (lv_at hl 1 rfl) ?_
    refine lv_lload_n hx hb dX8_addConstant_11 rfl (lv_at hl 2 rfl) ?_
    refine lv_aload_n hx hb dX8_addConstant_12 rfl (lv_at hl 0 rfl) ?_
    refine m_get (k := 36) (C := RX8) (T := TX8) (N := 18) (ref := "LiftFactorsModel") (v := .long (M.1 36 9)) hx hb hi hts inX8_u hown hw (by decide) rfl 9 (by decide) q_29 rfl rfl dX8_addConstant_13 ?_
    replace h := bnd h
    obtain ⟨v7, e7, h⟩ := h
    obtain ⟨ne7, rfl⟩ := rmJ_ok e7
    refine lv_lrem hx hb dX8_addConstant_16 ne7 ?_
    obtain ⟨v7, e7⟩ : ∃ z9, z9 = a1 - a1 / (M.1 36 9) * (M.1 36 9) := ⟨_, rfl⟩
    rw [← e7] at h ⊢
    replace h := bnd h
    obtain ⟨v8, e8, h⟩ := h
    refine m_callVv (k := 36) (As := [.int a0, .long v7]) (rest := []) cx.fix hi hw (cc_X8_constant (l := l) (G := G) (sz := H.size) hi e8) (by decide) rfl rfl (w_cV 2 hts q_47 q_48 q_49 q_50 q_51 rfl rfl (by decide) (by decide)) hl.1 rfl (lv_room (Nat.le_of_ble_eq_true rfl)) dX8_addConstant_17 (fun H locs hw => ?_)
    cases h
    exact kr _ _ _ _ dX8_addConstant_20 hw
theorem cc_X8_addConstant {l : Launch} {G : gG} {adr : Nat → Nat} {sz : Nat} (hi : adi adr) {n : Nat} {a0 : Int32} {a1 : Int64} {M M' : Mem} (h : f_X8_addConstant n a0 a1 M = some M') : mV l yX8_addConstant cX8_addConstant 4 none { frames := 1, cells := 0, slots := 0, locals := 23 } G adr [.ref (adr 36), .int a0, .long a1] M sz M' := by
  refine wEnter (by decide) (Nat.le_of_ble_eq_true rfl) ?_
  intro p e s m below meth c ls cx hinit hl hsz hw
  exact b_X8_addConstant cx hi h (fun pc ls H locs hd hw => w_vret (post := fun (u : Mem) => u = M') (lf := fun u => (LL adr, wf G adr u)) cx.1 cx.2.1 cx.2.2.1 cx.2.2.2.2.2.2 M' hw rfl hd) hl hw
def l_X8_lessLetter_9 (a0 : Int32) : Mem × Int32 → Option ((Mem) ⊕ (Mem × Int32)) := fun (M2, v3) =>
  if (1 : Int32) < v3 then
    some (.inl M2)
  else
    Option.bind (stJ M2 41 (((24 : Int32) * a0) + v3) (0 : Int64)) fun v4 =>
    some (.inr (v4, v3 + 1))
def f_X8_lessLetter (n : Nat) (a0 : Int32) (M : Mem) : Option Mem :=
  Option.bind (ldI M 42 a0) fun v1 =>
  Option.bind (lpF (l_X8_lessLetter_9 a0) n (M, v1 + (1 : Int32))) fun M6 =>
  Option.bind (ldI M6 42 a0) fun v7 =>
  Option.bind (
    if v7 ≤ (1 : Int32) then
      some (1 : Int32)
    else
      Option.bind (ldI M6 42 a0) fun v8 =>
      some v8) fun v9 =>
  Option.bind (ldJ M6 41 (((24 : Int32) * a0) + (1 : Int32))) fun v10 =>
  Option.bind (
    if v10 = (0 : Int64) then
      some ((M6.1 36 9) - (1 : Int64))
    else
      Option.bind (ldJ M6 41 (((24 : Int32) * a0) + (1 : Int32))) fun v11 =>
      some (v11 - (1 : Int64))) fun v12 =>
  Option.bind (stJ M6 41 (((24 : Int32) * a0) + (1 : Int32)) v12) fun v13 =>
  Option.bind (f_X8_trim n a0 v9 v13) fun v14 =>
  some v14
set_option maxRecDepth 100000 in
set_option maxHeartbeats 8000000 in
theorem b_X8_lessLetter {p : Program} {l : Launch} {e : Env} {s : State} {m : MethodId} {args : Array Value} {below : List Frame} {meth : Method} {c : Code} {Q : State → Prop} {G : gG} {A : Nat → Prop} {adr : Nat → Nat} (cx : cX p s m args meth c cX8_lessLetter none 3 yX8_lessLetter.cls) (hi : adi adr) {n : Nat} {a0 : Int32} {M M' : Mem} 
    (h : f_X8_lessLetter n a0 M = some M')
    (kr : ∀ (pc : Nat) (ls : Array Slot) (H : Heap) (locs : List Loc), decode cX8_lessLetter pc = .ok (.return_, 1) → wH G A s.heap s (LL adr) (wf G adr M') H locs → W p l e { frames := 1, cells := 0, slots := 0, locals := 23 } s m args below meth c H locs 0 0 Q (F0 m pc ls []))
    {ls : Array Slot} {H : Heap} {locs : List Loc} (hl : lv_has ls 3 [(0, .ref (adr 36)), (1, .int a0)]) (hw : wH G A s.heap s (LL adr) (wf G adr M) H locs) : W p l e { frames := 1, cells := 0, slots := 0, locals := 23 } s m args below meth c H locs 0 0 Q (F0 m 0 ls []) := by
  obtain ⟨hx, hb, -, -, hown, hts, -⟩ := id cx
  have hown : s.vm.findClass RX8 = some m.cls := hown
  unfold f_X8_lessLetter at h
  refine lv_aload_n hx hb dX8_lessLetter_0 rfl (lv_at hl 0 rfl) ?_
  refine m_get (k := 36) (C := RX8) (T := TX8) (N := 18) (ref := "LiftFactorsModel") (v := .ref (adr 42)) hx hb hi hts inX8_u hown hw (by decide) rfl 8 (by decide) q_1 rfl rfl dX8_lessLetter_1 ?_
  refine lv_iload_n hx hb dX8_lessLetter_4 rfl (lv_at hl 1 rfl) ?_
  replace h := bnd h
  obtain ⟨v1, e1, h⟩ := h
  refine m_iald hx hb hi hw e1 dX8_lessLetter_5 ?_
  refine lv_iconst (v := (1 : Int32)) hx hb dX8_lessLetter_6 (by decide) ?_
  refine lv_iadd hx hb dX8_lessLetter_7 ?_
  refine lv_istore_n (lv' := [(2, .int (v1 + (1 : Int32))), (0, .ref (adr 36)), (1, .int a0)]) hx hb dX8_lessLetter_8 rfl hl (by decide) rfl (fun ls hl => ?_)
  replace h := bnd h
  obtain ⟨M6, j5, h⟩ := h
  refine lp_W (Wst := fun (st : Mem × Int32) => ∀ (ls : Array Slot) (H : Heap) (locs : List Loc), lv_has ls 3 [(0, .ref (adr 36)), (1, .int a0), (2, .int st.2)] → wH G A s.heap s (LL adr) (wf G adr st.1) H locs → W p l e { frames := 1, cells := 0, slots := 0, locals := 23 } s m args below meth c H locs 0 0 Q (F0 m 9 ls [])) (fin := fun (r : Mem) => ∀ (ls : Array Slot) (H : Heap) (locs : List Loc), lv_has ls 3 [(0, .ref (adr 36)), (1, .int a0)] → wH G A s.heap s (LL adr) (wf G adr r) H locs → W p l e { frames := 1, cells := 0, slots := 0, locals := 23 } s m args below meth c H locs 0 0 Q (F0 m 32 ls [])) ?_ n _ _ j5 ?_ _ _ _ (lv_sub hl [1, 2, 0] rfl) hw
  · clear h j5 hw hl
    intro ⟨M2, v3⟩ x h k1 k2 ls H locs hl hw
    (try dsimp only at k1 k2 hl hw ⊢)
    unfold l_X8_lessLetter_9 at h
    (try dsimp only at h)
    refine lv_iload_n hx hb dX8_lessLetter_9 rfl (lv_at hl 2 rfl) ?_
    refine lv_iconst (v := (1 : Int32)) hx hb dX8_lessLetter_10 (by decide) ?_
    refine lv_icmp_gt (tgt := 32) hx hb dX8_lessLetter_11 (by decide) (fun hc => ?_) (fun hc => ?_)
    · replace h := ite_t hc h
      cases h
      exact k1 _ rfl _ _ _ (lv_sub hl [0, 1] rfl) hw
    · replace h := ite_f hc h
      refine lv_aload_n hx hb dX8_lessLetter_14 rfl (lv_at hl 0 rfl) ?_
      refine m_get (k := 36) (C := RX8) (T := TX8) (N := 18) (ref := "LiftFactorsModel") (v := .ref (adr 41)) hx hb hi hts inX8_u hown hw (by decide) rfl 7 (by decide) q_0 rfl rfl dX8_lessLetter_15 ?_
      refine lv_bipush (v := (24 : Int32)) hx hb dX8_lessLetter_18 (by decide) ?_
      refine lv_iload_n hx hb dX8_lessLetter_20 rfl (lv_at hl 1 rfl) ?_
      refine lv_imul hx hb dX8_lessLetter_21 ?_
      refine lv_iload_n hx hb dX8_lessLetter_22 rfl (lv_at hl 2 rfl) ?_
      refine lv_iadd hx hb dX8_lessLetter_23 ?_
      refine lv_lconst (v := (0 : Int64)) hx hb dX8_lessLetter_24 (by decide) ?_
      replace h := bnd h
      obtain ⟨v4, e4, h⟩ := h
      refine m_last hx hb hi hw e4 dX8_lessLetter_25 (fun H locs hw => ?_)
      refine lv_iinc (v := v3 + 1) (lv' := [(2, .int (v3 + 1)), (0, .ref (adr 36)), (1, .int a0)]) hx hb dX8_lessLetter_26 hl (k := 2) rfl (inc_p _ (by decide)) (by decide) rfl (fun ls hl => ?_)
      refine lv_goto (tgt := 9) hx hb dX8_lessLetter_29 (by decide) ?_
      cases h
      exact k2 _ rfl _ _ _ (lv_sub hl [1, 2, 0] rfl) hw
  · clear hw hl
    intro ls H locs hl hw
    (try dsimp only at hl hw ⊢)
    refine lv_aload_n hx hb dX8_lessLetter_32 rfl (lv_at hl 0 rfl) ?_
    refine m_get (k := 36) (C := RX8) (T := TX8) (N := 18) (ref := "LiftFactorsModel") (v := .ref (adr 42)) hx hb hi hts inX8_u hown hw (by decide) rfl 8 (by decide) q_1 rfl rfl dX8_lessLetter_33 ?_
    refine lv_iload_n hx hb dX8_lessLetter_36 rfl (lv_at hl 1 rfl) ?_
    replace h := bnd h
    obtain ⟨v7, e7, h⟩ := h
    refine m_iald hx hb hi hw e7 dX8_lessLetter_37 ?_
    refine lv_iconst (v := (1 : Int32)) hx hb dX8_lessLetter_38 (by decide) ?_
    replace h := bnd h
    obtain ⟨v9, j16, h⟩ := h
    have kj : ∀ (ls : Array Slot) (H : Heap) (locs : List Loc), lv_has ls 3 [(0, .ref (adr 36)), (1, .int a0)] → wH G A s.heap s (LL adr) (wf G adr M6) H locs → W p l e { frames := 1, cells := 0, slots := 0, locals := 23 } s m args below meth c H locs 0 0 Q (F0 m 52 ls [.int v9]) := by
      intro ls H locs hl hw
      refine lv_istore_n (lv' := [(2, .int v9), (0, .ref (adr 36)), (1, .int a0)]) hx hb dX8_lessLetter_52 rfl hl (by decide) rfl (fun ls hl => ?_)
      refine lv_aload_n hx hb dX8_lessLetter_53 rfl (lv_at hl 1 rfl) ?_
      refine m_get (k := 36) (C := RX8) (T := TX8) (N := 18) (ref := "LiftFactorsModel") (v := .ref (adr 41)) hx hb hi hts inX8_u hown hw (by decide) rfl 7 (by decide) q_0 rfl rfl dX8_lessLetter_54 ?_
      refine lv_bipush (v := (24 : Int32)) hx hb dX8_lessLetter_57 (by decide) ?_
      refine lv_iload_n hx hb dX8_lessLetter_59 rfl (lv_at hl 2 rfl) ?_
      refine lv_imul hx hb dX8_lessLetter_60 ?_
      refine lv_iconst (v := (1 : Int32)) hx hb dX8_lessLetter_61 (by decide) ?_
      refine lv_iadd hx hb dX8_lessLetter_62 ?_
      refine lv_aload_n hx hb dX8_lessLetter_63 rfl (lv_at hl 1 rfl) ?_
      refine m_get (k := 36) (C := RX8) (T := TX8) (N := 18) (ref := "LiftFactorsModel") (v := .ref (adr 41)) hx hb hi hts inX8_u hown hw (by decide) rfl 7 (by decide) q_0 rfl rfl dX8_lessLetter_64 ?_
      refine lv_bipush (v := (24 : Int32)) hx hb dX8_lessLetter_67 (by decide) ?_
      refine lv_iload_n hx hb dX8_lessLetter_69 rfl (lv_at hl 2 rfl) ?_
      refine lv_imul hx hb dX8_lessLetter_70 ?_
      refine lv_iconst (v := (1 : Int32)) hx hb dX8_lessLetter_71 (by decide) ?_
      refine lv_iadd hx hb dX8_lessLetter_72 ?_
      replace h := bnd h
      obtain ⟨v10, e10, h⟩ := h
      refine m_lald hx hb hi hw e10 dX8_lessLetter_73 ?_
      refine lv_lconst (v := (0 : Int64)) hx hb dX8_lessLetter_74 (by decide) ?_
      replace h := bnd h
      obtain ⟨v12, j15, h⟩ := h
      have kj : ∀ (ls : Array Slot) (H : Heap) (locs : List Loc), lv_has ls 3 [(0, .ref (adr 36)), (1, .int a0), (2, .int v9)] → wH G A s.heap s (LL adr) (wf G adr M6) H locs → W p l e { frames := 1, cells := 0, slots := 0, locals := 23 } s m args below meth c H locs 0 0 Q (F0 m 101 ls [.long v12, .int (((24 : Int32) * a0) + (1 : Int32)), .ref (adr 41)]) := by
        intro ls H locs hl hw
        replace h := bnd h
        obtain ⟨v13, e13, h⟩ := h
        refine m_last hx hb hi hw e13 dX8_lessLetter_101 (fun H locs hw => ?_)
        refine lv_aload_n hx hb dX8_lessLetter_102 rfl (lv_at hl 0 rfl) ?_
        refine lv_iload_n hx hb dX8_lessLetter_103 rfl (lv_at hl 1 rfl) ?_
        refine lv_iload_n hx hb dX8_lessLetter_104 rfl (lv_at hl 2 rfl) ?_
        replace h := bnd h
        obtain ⟨v14, e14, h⟩ := h
        refine m_callVv (k := 36) (As := [.int a0, .int v9]) (rest := []) cx.fix hi hw (cc_X8_trim (l := l) (G := G) (sz := H.size) hi e14) (by decide) rfl rfl (w_cV 2 hts q_11 q_12 q_13 q_14 q_15 rfl rfl (by decide) (by decide)) hl.1 rfl (lv_room (Nat.le_of_ble_eq_true rfl)) dX8_lessLetter_105 (fun H locs hw => ?_)
        cases h
        exact kr _ _ _ _ dX8_lessLetter_108 hw
      clear h
      replace h := j15
      clear j15
      refine m_lcmp_ne (tgt := 88) hx hb dX8_lessLetter_75 dX8_lessLetter_76 (by decide) (fun hc => ?_) (fun hc => ?_)
      · replace h := ite_f hc h
        refine lv_aload_n hx hb dX8_lessLetter_88 rfl (lv_at hl 1 rfl) ?_
        refine m_get (k := 36) (C := RX8) (T := TX8) (N := 18) (ref := "LiftFactorsModel") (v := .ref (adr 41)) hx hb hi hts inX8_u hown hw (by decide) rfl 7 (by decide) q_0 rfl rfl dX8_lessLetter_89 ?_
        refine lv_bipush (v := (24 : Int32)) hx hb dX8_lessLetter_92 (by decide) ?_
        refine lv_iload_n hx hb dX8_lessLetter_94 rfl (lv_at hl 2 rfl) ?_
        refine lv_imul hx hb dX8_lessLetter_95 ?_
        refine lv_iconst (v := (1 : Int32)) hx hb dX8_lessLetter_96 (by decide) ?_
        refine lv_iadd hx hb dX8_lessLetter_97 ?_
        replace h := bnd h
        obtain ⟨v11, e11, h⟩ := h
        refine m_lald hx hb hi hw e11 dX8_lessLetter_98 ?_
        refine lv_lconst (v := (1 : Int64)) hx hb dX8_lessLetter_99 (by decide) ?_
        refine lv_lsub hx hb dX8_lessLetter_100 ?_
        cases h
        exact kj _ _ _ (lv_sub hl [1, 2, 0] rfl) hw
      · replace h := ite_t hc h
        refine lv_aload_n hx hb dX8_lessLetter_79 rfl (lv_at hl 1 rfl) ?_
        refine m_get (k := 36) (C := RX8) (T := TX8) (N := 18) (ref := "LiftFactorsModel") (v := .long (M6.1 36 9)) hx hb hi hts inX8_u hown hw (by decide) rfl 9 (by decide) q_29 rfl rfl dX8_lessLetter_80 ?_
        refine lv_lconst (v := (1 : Int64)) hx hb dX8_lessLetter_83 (by decide) ?_
        refine lv_lsub hx hb dX8_lessLetter_84 ?_
        refine lv_goto (tgt := 101) hx hb dX8_lessLetter_85 (by decide) ?_
        cases h
        exact kj _ _ _ (lv_sub hl [1, 2, 0] rfl) hw
    clear h
    replace h := j16
    clear j16
    refine lv_icmp_le (tgt := 51) hx hb dX8_lessLetter_39 (by decide) (fun hc => ?_) (fun hc => ?_)
    · replace h := ite_t hc h
      refine lv_iconst (v := (1 : Int32)) hx hb dX8_lessLetter_51 (by decide) ?_
      cases h
      exact kj _ _ _ (lv_sub hl [0, 1] rfl) hw
    · replace h := ite_f hc h
      refine lv_aload_n hx hb dX8_lessLetter_42 rfl (lv_at hl 0 rfl) ?_
      refine m_get (k := 36) (C := RX8) (T := TX8) (N := 18) (ref := "LiftFactorsModel") (v := .ref (adr 42)) hx hb hi hts inX8_u hown hw (by decide) rfl 8 (by decide) q_1 rfl rfl dX8_lessLetter_43 ?_
      refine lv_iload_n hx hb dX8_lessLetter_46 rfl (lv_at hl 1 rfl) ?_
      replace h := bnd h
      obtain ⟨v8, e8, h⟩ := h
      refine m_iald hx hb hi hw e8 dX8_lessLetter_47 ?_
      refine lv_goto (tgt := 52) hx hb dX8_lessLetter_48 (by decide) ?_
      cases h
      exact kj _ _ _ (lv_sub hl [0, 1] rfl) hw
theorem cc_X8_lessLetter {l : Launch} {G : gG} {adr : Nat → Nat} {sz : Nat} (hi : adi adr) {n : Nat} {a0 : Int32} {M M' : Mem} (h : f_X8_lessLetter n a0 M = some M') : mV l yX8_lessLetter cX8_lessLetter 3 none { frames := 1, cells := 0, slots := 0, locals := 23 } G adr [.ref (adr 36), .int a0] M sz M' := by
  refine wEnter (by decide) (Nat.le_of_ble_eq_true rfl) ?_
  intro p e s m below meth c ls cx hinit hl hsz hw
  exact b_X8_lessLetter cx hi h (fun pc ls H locs hd hw => w_vret (post := fun (u : Mem) => u = M') (lf := fun u => (LL adr, wf G adr u)) cx.1 cx.2.1 cx.2.2.1 cx.2.2.2.2.2.2 M' hw rfl hd) hl hw
theorem q_96 : Cond.methodLink RX8 132 yX8_letter ∈ uU := uU_in (by decide +kernel) (by decide +kernel)
theorem q_97 : Cond.instanceMethod yX8_letter ∈ uU := uU_in (by decide +kernel) (by decide +kernel)
theorem q_98 : Cond.selects yX8_letter.cls yX8_letter yX8_letter ∈ uU := uU_in (by decide +kernel) (by decide +kernel)
theorem q_99 : Cond.initialized yX8_letter.cls ∈ uU := uU_in (by decide +kernel) (by decide +kernel)
theorem q_100 : Cond.code yX8_letter cX8_letter 2 none ∈ uU := uU_in (by decide +kernel) (by decide +kernel)
theorem q_101 : Cond.methodLink RX8 135 yX8_addConstant ∈ uU := uU_in (by decide +kernel) (by decide +kernel)
theorem q_102 : Cond.instanceMethod yX8_addConstant ∈ uU := uU_in (by decide +kernel) (by decide +kernel)
theorem q_103 : Cond.selects yX8_addConstant.cls yX8_addConstant yX8_addConstant ∈ uU := uU_in (by decide +kernel) (by decide +kernel)
theorem q_104 : Cond.initialized yX8_addConstant.cls ∈ uU := uU_in (by decide +kernel) (by decide +kernel)
theorem q_105 : Cond.code yX8_addConstant cX8_addConstant 4 none ∈ uU := uU_in (by decide +kernel) (by decide +kernel)
theorem q_106 : Cond.methodLink RX8 138 yX8_raise ∈ uU := uU_in (by decide +kernel) (by decide +kernel)
theorem q_107 : Cond.instanceMethod yX8_raise ∈ uU := uU_in (by decide +kernel) (by decide +kernel)
theorem q_108 : Cond.selects yX8_raise.cls yX8_raise yX8_raise ∈ uU := uU_in (by decide +kernel) (by decide +kernel)
theorem q_109 : Cond.initialized yX8_raise.cls ∈ uU := uU_in (by decide +kernel) (by decide +kernel)
theorem q_110 : Cond.code yX8_raise cX8_raise 8 none ∈ uU := uU_in (by decide +kernel) (by decide +kernel)
def l_X8_splits_23 (n : Nat) (a0 : Int32) (a1 : Int32) (a2 : Int64) : Mem × Int32 → Option ((Mem) ⊕ (Mem × Int32)) := fun (M4, v5) =>
  if a1 ≤ v5 then
    some (.inl M4)
  else
    Option.bind (f_X8_copy n (14 : Int32) (13 : Int32) M4) fun v6 =>
    Option.bind (f_X8_addConstant n (13 : Int32) a2 v6) fun v7 =>
    Option.bind (f_X8_multiply n (15 : Int32) (13 : Int32) a0 (15 : Int32) v7) fun v8 =>
    Option.bind (f_X8_copy n (14 : Int32) (16 : Int32) v8) fun v9 =>
    Option.bind (
      if a1 ≤ (v5 + (1 : Int32)) then
        some v9
      else
        Option.bind (f_X8_raise n (16 : Int32) (v9.1 36 9) a0 (14 : Int32) v9) fun v10 =>
        some v10) fun M11 =>
    some (.inr (M11, v5 + 1))
def f_X8_splits (n : Nat) (a0 : Int32) (a1 : Int32) (a2 : Int64) (M : Mem) : Option (Int32 × Mem) :=
  Option.bind (f_X8_constant (15 : Int32) (1 : Int64) M) fun v1 =>
  Option.bind (f_X8_letter (14 : Int32) v1) fun v2 =>
  Option.bind (f_X8_rest n (14 : Int32) a0 v2) fun v3 =>
  Option.bind (lpF (l_X8_splits_23 n a0 a1 a2) n (v3, (0 : Int32))) fun M14 =>
  Option.bind (dvJ ((M14.1 36 9) - (1 : Int64)) (2 : Int64)) fun v15 =>
  Option.bind (f_X8_raise n (15 : Int32) v15 a0 (16 : Int32) M14) fun v16 =>
  Option.bind (f_X8_addConstant n (16 : Int32) ((v16.1 36 9) - (1 : Int64)) v16) fun v17 =>
  Option.bind (f_X8_copy n a0 (20 : Int32) v17) fun v18 =>
  Option.bind (ldI v18 42 (16 : Int32)) fun v19 =>
  if 0 ≤ v19 then
    Option.bind (f_X8_commonRow n (20 : Int32) (16 : Int32) (13 : Int32) v18) fun v20 =>
    Option.bind (ldI v20 42 (13 : Int32)) fun v21 =>
    Option.bind (
      if v21 ≤ 0 then
        some (0 : Int32)
      else
        Option.bind (ldI v20 42 (13 : Int32)) fun v22 =>
        Option.bind (ldI v20 42 a0) fun v23 =>
        if v23 ≤ v22 then
          some (0 : Int32)
        else
          some (1 : Int32)) fun v24 =>
    Option.bind (bz v24) fun v25 =>
    some (v25, v20)
  else
    some ((0 : Int32), v18)
set_option maxRecDepth 100000 in
set_option maxHeartbeats 8000000 in
theorem b_X8_splits {p : Program} {l : Launch} {e : Env} {s : State} {m : MethodId} {args : Array Value} {below : List Frame} {meth : Method} {c : Code} {Q : State → Prop} {G : gG} {A : Nat → Prop} {adr : Nat → Nat} (cx : cX p s m args meth c cX8_splits (some .boolean) 6 yX8_splits.cls) (hi : adi adr) {n : Nat} {a0 : Int32} {a1 : Int32} {a2 : Int64} {M M' : Mem} {r : Int32} 
    (h : f_X8_splits n a0 a1 a2 M = some (r, M'))
    (kr : ∀ (pc : Nat) (ls : Array Slot) (H : Heap) (locs : List Loc), decode cX8_splits pc = .ok (.ireturn, 1) → narrow .boolean (.int r) = .int r → wH G A s.heap s (LL adr) (wf G adr M') H locs → W p l e { frames := 4, cells := 0, slots := 0, locals := 111 } s m args below meth c H locs 0 0 Q (F0 m pc ls [.int r]))
    {ls : Array Slot} {H : Heap} {locs : List Loc} (hl : lv_has ls 6 [(0, .ref (adr 36)), (1, .int a0), (2, .int a1), (3, .long a2)]) (hw : wH G A s.heap s (LL adr) (wf G adr M) H locs) : W p l e { frames := 4, cells := 0, slots := 0, locals := 111 } s m args below meth c H locs 0 0 Q (F0 m 0 ls []) := by
  obtain ⟨hx, hb, -, -, hown, hts, -⟩ := id cx
  have hown : s.vm.findClass RX8 = some m.cls := hown
  unfold f_X8_splits at h
  refine lv_aload_n hx hb dX8_splits_0 rfl (lv_at hl 0 rfl) ?_
  refine lv_bipush (v := (15 : Int32)) hx hb dX8_splits_1 (by decide) ?_
  refine lv_lconst (v := (1 : Int64)) hx hb dX8_splits_3 (by decide) ?_
  replace h := bnd h
  obtain ⟨v1, e1, h⟩ := h
  refine m_callVv (k := 36) (As := [.int (15 : Int32), .long (1 : Int64)]) (rest := []) cx.fix hi hw (cc_X8_constant (l := l) (G := G) (sz := H.size) hi e1) (by decide) rfl rfl (w_cV 2 hts q_47 q_48 q_49 q_50 q_51 rfl rfl (by decide) (by decide)) hl.1 rfl (lv_room (Nat.le_of_ble_eq_true rfl)) dX8_splits_4 (fun H locs hw => ?_)
  refine lv_aload_n hx hb dX8_splits_7 rfl (lv_at hl 0 rfl) ?_
  refine lv_bipush (v := (14 : Int32)) hx hb dX8_splits_8 (by decide) ?_
  replace h := bnd h
  obtain ⟨v2, e2, h⟩ := h
  refine m_callVv (k := 36) (As := [.int (14 : Int32)]) (rest := []) cx.fix hi hw (cc_X8_letter (l := l) (G := G) (sz := H.size) hi e2) (by decide) rfl rfl (w_cV 1 hts q_96 q_97 q_98 q_99 q_100 rfl rfl (by decide) (by decide)) hl.1 rfl (lv_room (Nat.le_of_ble_eq_true rfl)) dX8_splits_10 (fun H locs hw => ?_)
  refine lv_aload_n hx hb dX8_splits_13 rfl (lv_at hl 0 rfl) ?_
  refine lv_bipush (v := (14 : Int32)) hx hb dX8_splits_14 (by decide) ?_
  refine lv_iload_n hx hb dX8_splits_16 rfl (lv_at hl 1 rfl) ?_
  replace h := bnd h
  obtain ⟨v3, e3, h⟩ := h
  refine m_callVv (k := 36) (As := [.int (14 : Int32), .int a0]) (rest := []) cx.fix hi hw (cc_X8_rest (l := l) (G := G) (sz := H.size) hi e3) (by decide) rfl rfl (w_cV 2 hts q_42 q_43 q_44 q_45 q_46 rfl rfl (by decide) (by decide)) hl.1 rfl (lv_room (Nat.le_of_ble_eq_true rfl)) dX8_splits_17 (fun H locs hw => ?_)
  refine lv_iconst (v := (0 : Int32)) hx hb dX8_splits_20 (by decide) ?_
  refine lv_istore (lv' := [(5, .int (0 : Int32)), (0, .ref (adr 36)), (1, .int a0), (2, .int a1), (3, .long a2)]) hx hb dX8_splits_21 hl (by decide) rfl (fun ls hl => ?_)
  replace h := bnd h
  obtain ⟨M14, j13, h⟩ := h
  refine lp_W (Wst := fun (st : Mem × Int32) => ∀ (ls : Array Slot) (H : Heap) (locs : List Loc), lv_has ls 6 [(0, .ref (adr 36)), (1, .int a0), (2, .int a1), (3, .long a2), (5, .int st.2)] → wH G A s.heap s (LL adr) (wf G adr st.1) H locs → W p l e { frames := 4, cells := 0, slots := 0, locals := 111 } s m args below meth c H locs 0 0 Q (F0 m 23 ls [])) (fin := fun (r : Mem) => ∀ (ls : Array Slot) (H : Heap) (locs : List Loc), lv_has ls 6 [(0, .ref (adr 36)), (1, .int a0)] → wH G A s.heap s (LL adr) (wf G adr r) H locs → W p l e { frames := 4, cells := 0, slots := 0, locals := 111 } s m args below meth c H locs 0 0 Q (F0 m 90 ls [])) ?_ n _ _ j13 ?_ _ _ _ (lv_sub hl [1, 2, 3, 4, 0] rfl) hw
  · clear h j13 hw hl
    intro ⟨M4, v5⟩ x h k1 k2 ls H locs hl hw
    (try dsimp only at k1 k2 hl hw ⊢)
    unfold l_X8_splits_23 at h
    (try dsimp only at h)
    refine lv_iload hx hb dX8_splits_23 (lv_at hl 4 rfl) ?_
    refine lv_iload_n hx hb dX8_splits_25 rfl (lv_at hl 2 rfl) ?_
    refine lv_icmp_ge (tgt := 90) hx hb dX8_splits_26 (by decide) (fun hc => ?_) (fun hc => ?_)
    · replace h := ite_t hc h
      cases h
      exact k1 _ rfl _ _ _ (lv_sub hl [0, 1] rfl) hw
    · replace h := ite_f hc h
      refine lv_aload_n hx hb dX8_splits_29 rfl (lv_at hl 0 rfl) ?_
      refine lv_bipush (v := (14 : Int32)) hx hb dX8_splits_30 (by decide) ?_
      refine lv_bipush (v := (13 : Int32)) hx hb dX8_splits_32 (by decide) ?_
      replace h := bnd h
      obtain ⟨v6, e6, h⟩ := h
      refine m_callVv (k := 36) (As := [.int (14 : Int32), .int (13 : Int32)]) (rest := []) cx.fix hi hw (cc_X8_copy (l := l) (G := G) (sz := H.size) hi e6) (by decide) rfl rfl (w_cV 2 hts q_24 q_25 q_26 q_27 q_28 rfl rfl (by decide) (by decide)) hl.1 rfl (lv_room (Nat.le_of_ble_eq_true rfl)) dX8_splits_34 (fun H locs hw => ?_)
      refine lv_aload_n hx hb dX8_splits_37 rfl (lv_at hl 0 rfl) ?_
      refine lv_bipush (v := (13 : Int32)) hx hb dX8_splits_38 (by decide) ?_
      refine lv_lload_n hx hb dX8_splits_40 rfl (lv_at hl 3 rfl) ?_
      replace h := bnd h
      obtain ⟨v7, e7, h⟩ := h
      refine m_callVv (k := 36) (As := [.int (13 : Int32), .long a2]) (rest := []) cx.fix hi hw (cc_X8_addConstant (l := l) (G := G) (sz := H.size) hi e7) (by decide) rfl rfl (w_cV 2 hts q_101 q_102 q_103 q_104 q_105 rfl rfl (by decide) (by decide)) hl.1 rfl (lv_room (Nat.le_of_ble_eq_true rfl)) dX8_splits_41 (fun H locs hw => ?_)
      refine lv_aload_n hx hb dX8_splits_44 rfl (lv_at hl 0 rfl) ?_
      refine lv_bipush (v := (15 : Int32)) hx hb dX8_splits_45 (by decide) ?_
      refine lv_bipush (v := (13 : Int32)) hx hb dX8_splits_47 (by decide) ?_
      refine lv_iload_n hx hb dX8_splits_49 rfl (lv_at hl 1 rfl) ?_
      refine lv_bipush (v := (15 : Int32)) hx hb dX8_splits_50 (by decide) ?_
      replace h := bnd h
      obtain ⟨v8, e8, h⟩ := h
      refine m_callVv (k := 36) (As := [.int (15 : Int32), .int (13 : Int32), .int a0, .int (15 : Int32)]) (rest := []) cx.fix hi hw (cc_X8_multiply (l := l) (G := G) (sz := H.size) hi e8) (by decide) rfl rfl (w_cV 4 hts q_52 q_53 q_54 q_55 q_56 rfl rfl (by decide) (by decide)) hl.1 rfl (lv_room (Nat.le_of_ble_eq_true rfl)) dX8_splits_52 (fun H locs hw => ?_)
      refine lv_aload_n hx hb dX8_splits_55 rfl (lv_at hl 0 rfl) ?_
      refine lv_bipush (v := (14 : Int32)) hx hb dX8_splits_56 (by decide) ?_
      refine lv_bipush (v := (16 : Int32)) hx hb dX8_splits_58 (by decide) ?_
      replace h := bnd h
      obtain ⟨v9, e9, h⟩ := h
      refine m_callVv (k := 36) (As := [.int (14 : Int32), .int (16 : Int32)]) (rest := []) cx.fix hi hw (cc_X8_copy (l := l) (G := G) (sz := H.size) hi e9) (by decide) rfl rfl (w_cV 2 hts q_24 q_25 q_26 q_27 q_28 rfl rfl (by decide) (by decide)) hl.1 rfl (lv_room (Nat.le_of_ble_eq_true rfl)) dX8_splits_60 (fun H locs hw => ?_)
      refine lv_iload hx hb dX8_splits_63 (lv_at hl 4 rfl) ?_
      refine lv_iconst (v := (1 : Int32)) hx hb dX8_splits_65 (by decide) ?_
      refine lv_iadd hx hb dX8_splits_66 ?_
      refine lv_iload_n hx hb dX8_splits_67 rfl (lv_at hl 2 rfl) ?_
      replace h := bnd h
      obtain ⟨M11, j12, h⟩ := h
      have kj : ∀ (ls : Array Slot) (H : Heap) (locs : List Loc), lv_has ls 6 [(0, .ref (adr 36)), (1, .int a0), (2, .int a1), (3, .long a2), (5, .int v5)] → wH G A s.heap s (LL adr) (wf G adr M11) H locs → W p l e { frames := 4, cells := 0, slots := 0, locals := 111 } s m args below meth c H locs 0 0 Q (F0 m 84 ls []) := by
        intro ls H locs hl hw
        refine lv_iinc (v := v5 + 1) (lv' := [(5, .int (v5 + 1)), (0, .ref (adr 36)), (1, .int a0), (2, .int a1), (3, .long a2)]) hx hb dX8_splits_84 hl (k := 4) rfl (inc_p _ (by decide)) (by decide) rfl (fun ls hl => ?_)
        refine lv_goto (tgt := 23) hx hb dX8_splits_87 (by decide) ?_
        cases h
        exact k2 _ rfl _ _ _ (lv_sub hl [1, 2, 3, 4, 0] rfl) hw
      clear h
      replace h := j12
      clear j12
      refine lv_icmp_ge (tgt := 84) hx hb dX8_splits_68 (by decide) (fun hc => ?_) (fun hc => ?_)
      · replace h := ite_t hc h
        cases h
        exact kj _ _ _ (lv_sub hl [0, 1, 2, 3, 4] rfl) hw
      · replace h := ite_f hc h
        refine lv_aload_n hx hb dX8_splits_71 rfl (lv_at hl 0 rfl) ?_
        refine lv_bipush (v := (16 : Int32)) hx hb dX8_splits_72 (by decide) ?_
        refine lv_aload_n hx hb dX8_splits_74 rfl (lv_at hl 0 rfl) ?_
        refine m_get (k := 36) (C := RX8) (T := TX8) (N := 18) (ref := "LiftFactorsModel") (v := .long (v9.1 36 9)) hx hb hi hts inX8_u hown hw (by decide) rfl 9 (by decide) q_29 rfl rfl dX8_splits_75 ?_
        refine lv_iload_n hx hb dX8_splits_78 rfl (lv_at hl 1 rfl) ?_
        refine lv_bipush (v := (14 : Int32)) hx hb dX8_splits_79 (by decide) ?_
        replace h := bnd h
        obtain ⟨v10, e10, h⟩ := h
        refine m_callVv (k := 36) (As := [.int (16 : Int32), .long (v9.1 36 9), .int a0, .int (14 : Int32)]) (rest := []) cx.fix hi hw (cc_X8_raise (l := l) (G := G) (sz := H.size) hi e10) (by decide) rfl rfl (w_cV 4 hts q_106 q_107 q_108 q_109 q_110 rfl rfl (by decide) (by decide)) hl.1 rfl (lv_room (Nat.le_of_ble_eq_true rfl)) dX8_splits_81 (fun H locs hw => ?_)
        cases h
        exact kj _ _ _ (lv_sub hl [0, 1, 2, 3, 4] rfl) hw
  · clear hw hl
    intro ls H locs hl hw
    (try dsimp only at hl hw ⊢)
    refine lv_aload_n hx hb dX8_splits_90 rfl (lv_at hl 0 rfl) ?_
    refine lv_bipush (v := (15 : Int32)) hx hb dX8_splits_91 (by decide) ?_
    refine lv_aload_n hx hb dX8_splits_93 rfl (lv_at hl 0 rfl) ?_
    refine m_get (k := 36) (C := RX8) (T := TX8) (N := 18) (ref := "LiftFactorsModel") (v := .long (M14.1 36 9)) hx hb hi hts inX8_u hown hw (by decide) rfl 9 (by decide) q_29 rfl rfl dX8_splits_94 ?_
    refine lv_lconst (v := (1 : Int64)) hx hb dX8_splits_97 (by decide) ?_
    refine lv_lsub hx hb dX8_splits_98 ?_
    refine lv_ldc2 (v := (2 : Int64)) hx hb hown (hts _ q_36) dX8_splits_99 ?_
    replace h := bnd h
    obtain ⟨v15, e15, h⟩ := h
    obtain ⟨ne15, rfl⟩ := dvJ_ok e15
    refine lv_ldiv hx hb dX8_splits_102 ne15 ?_
    obtain ⟨v15, e15⟩ : ∃ z9, z9 = ((M14.1 36 9) - (1 : Int64)) / (2 : Int64) := ⟨_, rfl⟩
    rw [← e15] at h ⊢
    refine lv_iload_n hx hb dX8_splits_103 rfl (lv_at hl 1 rfl) ?_
    refine lv_bipush (v := (16 : Int32)) hx hb dX8_splits_104 (by decide) ?_
    replace h := bnd h
    obtain ⟨v16, e16, h⟩ := h
    refine m_callVv (k := 36) (As := [.int (15 : Int32), .long v15, .int a0, .int (16 : Int32)]) (rest := []) cx.fix hi hw (cc_X8_raise (l := l) (G := G) (sz := H.size) hi e16) (by decide) rfl rfl (w_cV 4 hts q_106 q_107 q_108 q_109 q_110 rfl rfl (by decide) (by decide)) hl.1 rfl (lv_room (Nat.le_of_ble_eq_true rfl)) dX8_splits_106 (fun H locs hw => ?_)
    refine lv_aload_n hx hb dX8_splits_109 rfl (lv_at hl 0 rfl) ?_
    refine lv_bipush (v := (16 : Int32)) hx hb dX8_splits_110 (by decide) ?_
    refine lv_aload_n hx hb dX8_splits_112 rfl (lv_at hl 0 rfl) ?_
    refine m_get (k := 36) (C := RX8) (T := TX8) (N := 18) (ref := "LiftFactorsModel") (v := .long (v16.1 36 9)) hx hb hi hts inX8_u hown hw (by decide) rfl 9 (by decide) q_29 rfl rfl dX8_splits_113 ?_
    refine lv_lconst (v := (1 : Int64)) hx hb dX8_splits_116 (by decide) ?_
    refine lv_lsub hx hb dX8_splits_117 ?_
    replace h := bnd h
    obtain ⟨v17, e17, h⟩ := h
    refine m_callVv (k := 36) (As := [.int (16 : Int32), .long ((v16.1 36 9) - (1 : Int64))]) (rest := []) cx.fix hi hw (cc_X8_addConstant (l := l) (G := G) (sz := H.size) hi e17) (by decide) rfl rfl (w_cV 2 hts q_101 q_102 q_103 q_104 q_105 rfl rfl (by decide) (by decide)) hl.1 rfl (lv_room (Nat.le_of_ble_eq_true rfl)) dX8_splits_118 (fun H locs hw => ?_)
    refine lv_aload_n hx hb dX8_splits_121 rfl (lv_at hl 0 rfl) ?_
    refine lv_iload_n hx hb dX8_splits_122 rfl (lv_at hl 1 rfl) ?_
    refine lv_bipush (v := (20 : Int32)) hx hb dX8_splits_123 (by decide) ?_
    replace h := bnd h
    obtain ⟨v18, e18, h⟩ := h
    refine m_callVv (k := 36) (As := [.int a0, .int (20 : Int32)]) (rest := []) cx.fix hi hw (cc_X8_copy (l := l) (G := G) (sz := H.size) hi e18) (by decide) rfl rfl (w_cV 2 hts q_24 q_25 q_26 q_27 q_28 rfl rfl (by decide) (by decide)) hl.1 rfl (lv_room (Nat.le_of_ble_eq_true rfl)) dX8_splits_125 (fun H locs hw => ?_)
    refine lv_aload_n hx hb dX8_splits_128 rfl (lv_at hl 0 rfl) ?_
    refine m_get (k := 36) (C := RX8) (T := TX8) (N := 18) (ref := "LiftFactorsModel") (v := .ref (adr 42)) hx hb hi hts inX8_u hown hw (by decide) rfl 8 (by decide) q_1 rfl rfl dX8_splits_129 ?_
    refine lv_bipush (v := (16 : Int32)) hx hb dX8_splits_132 (by decide) ?_
    replace h := bnd h
    obtain ⟨v19, e19, h⟩ := h
    refine m_iald hx hb hi hw e19 dX8_splits_134 ?_
    refine lv_if_ge (tgt := 140) hx hb dX8_splits_135 (by decide) (fun hc => ?_) (fun hc => ?_)
    · replace h := ite_t hc h
      refine lv_aload_n hx hb dX8_splits_140 rfl (lv_at hl 0 rfl) ?_
      refine lv_bipush (v := (20 : Int32)) hx hb dX8_splits_141 (by decide) ?_
      refine lv_bipush (v := (16 : Int32)) hx hb dX8_splits_143 (by decide) ?_
      refine lv_bipush (v := (13 : Int32)) hx hb dX8_splits_145 (by decide) ?_
      replace h := bnd h
      obtain ⟨v20, e20, h⟩ := h
      refine m_callVv (k := 36) (As := [.int (20 : Int32), .int (16 : Int32), .int (13 : Int32)]) (rest := []) cx.fix hi hw (cc_X8_commonRow (l := l) (G := G) (sz := H.size) hi e20) (by decide) rfl rfl (w_cV 3 hts q_79 q_80 q_81 q_82 q_83 rfl rfl (by decide) (by decide)) hl.1 rfl (lv_room (Nat.le_of_ble_eq_true rfl)) dX8_splits_147 (fun H locs hw => ?_)
      refine lv_aload_n hx hb dX8_splits_150 rfl (lv_at hl 0 rfl) ?_
      refine m_get (k := 36) (C := RX8) (T := TX8) (N := 18) (ref := "LiftFactorsModel") (v := .ref (adr 42)) hx hb hi hts inX8_u hown hw (by decide) rfl 8 (by decide) q_1 rfl rfl dX8_splits_151 ?_
      refine lv_bipush (v := (13 : Int32)) hx hb dX8_splits_154 (by decide) ?_
      replace h := bnd h
      obtain ⟨v21, e21, h⟩ := h
      refine m_iald hx hb hi hw e21 dX8_splits_156 ?_
      replace h := bnd h
      obtain ⟨v24, j26, h⟩ := h
      have kj : ∀ (ls : Array Slot) (H : Heap) (locs : List Loc), lv_has ls 6 [] → wH G A s.heap s (LL adr) (wf G adr v20) H locs → W p l e { frames := 4, cells := 0, slots := 0, locals := 111 } s m args below meth c H locs 0 0 Q (F0 m 181 ls [.int v24]) := by
        intro ls H locs hl hw
        replace h := bnd h
        obtain ⟨v25, e9, h⟩ := h
        obtain ⟨rfl, e9⟩ := bz_ok e9
        cases h
        exact kr _ _ _ _ dX8_splits_181 e9 hw
      clear h
      replace h := j26
      clear j26
      refine lv_if_le (tgt := 180) hx hb dX8_splits_157 (by decide) (fun hc => ?_) (fun hc => ?_)
      · replace h := ite_t hc h
        refine lv_iconst (v := (0 : Int32)) hx hb dX8_splits_180 (by decide) ?_
        cases h
        exact kj _ _ _ (lv_sub hl [] rfl) hw
      · replace h := ite_f hc h
        refine lv_aload_n hx hb dX8_splits_160 rfl (lv_at hl 0 rfl) ?_
        refine m_get (k := 36) (C := RX8) (T := TX8) (N := 18) (ref := "LiftFactorsModel") (v := .ref (adr 42)) hx hb hi hts inX8_u hown hw (by decide) rfl 8 (by decide) q_1 rfl rfl dX8_splits_161 ?_
        refine lv_bipush (v := (13 : Int32)) hx hb dX8_splits_164 (by decide) ?_
        replace h := bnd h
        obtain ⟨v22, e22, h⟩ := h
        refine m_iald hx hb hi hw e22 dX8_splits_166 ?_
        refine lv_aload_n hx hb dX8_splits_167 rfl (lv_at hl 0 rfl) ?_
        refine m_get (k := 36) (C := RX8) (T := TX8) (N := 18) (ref := "LiftFactorsModel") (v := .ref (adr 42)) hx hb hi hts inX8_u hown hw (by decide) rfl 8 (by decide) q_1 rfl rfl dX8_splits_168 ?_
        refine lv_iload_n hx hb dX8_splits_171 rfl (lv_at hl 1 rfl) ?_
        replace h := bnd h
        obtain ⟨v23, e23, h⟩ := h
        refine m_iald hx hb hi hw e23 dX8_splits_172 ?_
        refine lv_icmp_ge (tgt := 180) hx hb dX8_splits_173 (by decide) (fun hc => ?_) (fun hc => ?_)
        · replace h := ite_t hc h
          refine lv_iconst (v := (0 : Int32)) hx hb dX8_splits_180 (by decide) ?_
          cases h
          exact kj _ _ _ (lv_sub hl [] rfl) hw
        · replace h := ite_f hc h
          refine lv_iconst (v := (1 : Int32)) hx hb dX8_splits_176 (by decide) ?_
          refine lv_goto (tgt := 181) hx hb dX8_splits_177 (by decide) ?_
          cases h
          exact kj _ _ _ (lv_sub hl [] rfl) hw
    · replace h := ite_f hc h
      refine lv_iconst (v := (0 : Int32)) hx hb dX8_splits_138 (by decide) ?_
      cases h
      exact kr _ _ _ _ dX8_splits_139 (by decide) hw
theorem cc_X8_splits {l : Launch} {G : gG} {adr : Nat → Nat} {sz : Nat} (hi : adi adr) {n : Nat} {a0 : Int32} {a1 : Int32} {a2 : Int64} {M M' : Mem} {r : Int32} (h : f_X8_splits n a0 a1 a2 M = some (r, M')) : mI l yX8_splits cX8_splits 6 (some .boolean) { frames := 4, cells := 0, slots := 0, locals := 111 } G adr [.ref (adr 36), .int a0, .int a1, .long a2] M sz r M' := by
  refine wEnter (by decide) (Nat.le_of_ble_eq_true rfl) ?_
  intro p e s m below meth c ls cx hinit hl hsz hw
  exact b_X8_splits cx hi h (fun pc ls H locs hd hz hw => w_zret (post := fun (r9 : Int32) (u : Mem) => r9 = r ∧ u = M') (lf := fun u => (LL adr, wf G adr u)) cx.1 cx.2.1 cx.2.2.1 cx.2.2.2.2.2.2 hz M' hw ⟨rfl, rfl⟩ hd) hl hw
theorem q_111 : Cond.methodLink RX8 142 yX8_splits ∈ uU := uU_in (by decide +kernel) (by decide +kernel)
theorem q_112 : Cond.instanceMethod yX8_splits ∈ uU := uU_in (by decide +kernel) (by decide +kernel)
theorem q_113 : Cond.selects yX8_splits.cls yX8_splits yX8_splits ∈ uU := uU_in (by decide +kernel) (by decide +kernel)
theorem q_114 : Cond.initialized yX8_splits.cls ∈ uU := uU_in (by decide +kernel) (by decide +kernel)
theorem q_115 : Cond.code yX8_splits cX8_splits 6 (some .boolean) ∈ uU := uU_in (by decide +kernel) (by decide +kernel)
theorem q_116 : Cond.methodLink RX8 145 yX8_addPart ∈ uU := uU_in (by decide +kernel) (by decide +kernel)
theorem q_117 : Cond.instanceMethod yX8_addPart ∈ uU := uU_in (by decide +kernel) (by decide +kernel)
theorem q_118 : Cond.selects yX8_addPart.cls yX8_addPart yX8_addPart ∈ uU := uU_in (by decide +kernel) (by decide +kernel)
theorem q_119 : Cond.initialized yX8_addPart.cls ∈ uU := uU_in (by decide +kernel) (by decide +kernel)
theorem q_120 : Cond.code yX8_addPart cX8_addPart 2 none ∈ uU := uU_in (by decide +kernel) (by decide +kernel)
def l_X8_splitAll_13 (n : Nat) (a1 : Int32) (v2 : Int32) : Mem × Int64 → Option ((Mem) ⊕ (Mem × Int64)) := fun (M3, v4) =>
  Option.bind (ldI M3 42 ((24 : Int32) + v2)) fun v5 =>
  if v5 ≤ a1 then
    some (.inl M3)
  else
    Option.bind (f_X8_splits n ((24 : Int32) + v2) a1 v4 M3) fun (v6, M7) =>
    Option.bind (
      if v6 = 0 then
        some M7
      else
        Option.bind (f_X8_copy n ((24 : Int32) + v2) (20 : Int32) M7) fun v8 =>
        Option.bind (f_X8_rest n (20 : Int32) (13 : Int32) v8) fun v9 =>
        Option.bind (f_X8_copy n (3 : Int32) ((24 : Int32) + v2) v9) fun v10 =>
        Option.bind (f_X8_addPart n (13 : Int32) v10) fun v11 =>
        some v11) fun M12 =>
    some (.inr (M12, v4 + (1 : Int64)))
def l_X8_splitAll_2 (n : Nat) (a1 : Int32) : Mem × Int32 → Option ((Mem) ⊕ (Mem × Int32)) := fun (M1, v2) =>
  if (M1.2 36 10) ≤ v2 then
    some (.inl M1)
  else
    Option.bind (lpF (l_X8_splitAll_13 n a1 v2) n (M1, (0 : Int64))) fun M15 =>
    some (.inr (M15, v2 + 1))
def f_X8_splitAll (n : Nat) (a0 : Int32) (a1 : Int32) (M : Mem) : Option Mem :=
  Option.bind (lpF (l_X8_splitAll_2 n a1) n (M, a0)) fun M17 =>
  some M17
set_option maxRecDepth 100000 in
set_option maxHeartbeats 8000000 in
theorem b_X8_splitAll {p : Program} {l : Launch} {e : Env} {s : State} {m : MethodId} {args : Array Value} {below : List Frame} {meth : Method} {c : Code} {Q : State → Prop} {G : gG} {A : Nat → Prop} {adr : Nat → Nat} (cx : cX p s m args meth c cX8_splitAll none 6 yX8_splitAll.cls) (hi : adi adr) {n : Nat} {a0 : Int32} {a1 : Int32} {M M' : Mem} 
    (h : f_X8_splitAll n a0 a1 M = some M')
    (kr : ∀ (pc : Nat) (ls : Array Slot) (H : Heap) (locs : List Loc), decode cX8_splitAll pc = .ok (.return_, 1) → wH G A s.heap s (LL adr) (wf G adr M') H locs → W p l e { frames := 5, cells := 0, slots := 0, locals := 136 } s m args below meth c H locs 0 0 Q (F0 m pc ls []))
    {ls : Array Slot} {H : Heap} {locs : List Loc} (hl : lv_has ls 6 [(0, .ref (adr 36)), (1, .int a0), (2, .int a1)]) (hw : wH G A s.heap s (LL adr) (wf G adr M) H locs) : W p l e { frames := 5, cells := 0, slots := 0, locals := 136 } s m args below meth c H locs 0 0 Q (F0 m 0 ls []) := by
  obtain ⟨hx, hb, -, -, hown, hts, -⟩ := id cx
  have hown : s.vm.findClass RX8 = some m.cls := hown
  unfold f_X8_splitAll at h
  refine lv_iload_n hx hb dX8_splitAll_0 rfl (lv_at hl 1 rfl) ?_
  refine lv_istore_n (lv' := [(3, .int a0), (0, .ref (adr 36)), (1, .int a0), (2, .int a1)]) hx hb dX8_splitAll_1 rfl hl (by decide) rfl (fun ls hl => ?_)
  replace h := bnd h
  obtain ⟨M17, j16, h⟩ := h
  refine lp_W (Wst := fun (st : Mem × Int32) => ∀ (ls : Array Slot) (H : Heap) (locs : List Loc), lv_has ls 6 [(0, .ref (adr 36)), (2, .int a1), (3, .int st.2)] → wH G A s.heap s (LL adr) (wf G adr st.1) H locs → W p l e { frames := 5, cells := 0, slots := 0, locals := 136 } s m args below meth c H locs 0 0 Q (F0 m 2 ls [])) (fin := fun (r : Mem) => ∀ (ls : Array Slot) (H : Heap) (locs : List Loc), lv_has ls 6 [] → wH G A s.heap s (LL adr) (wf G adr r) H locs → W p l e { frames := 5, cells := 0, slots := 0, locals := 136 } s m args below meth c H locs 0 0 Q (F0 m 88 ls [])) ?_ n _ _ j16 ?_ _ _ _ (lv_sub hl [1, 3, 0] rfl) hw
  · clear h j16 hw hl
    intro ⟨M1, v2⟩ x h k1 k2 ls H locs hl hw
    (try dsimp only at k1 k2 hl hw ⊢)
    unfold l_X8_splitAll_2 at h
    (try dsimp only at h)
    refine lv_iload_n hx hb dX8_splitAll_2 rfl (lv_at hl 2 rfl) ?_
    refine lv_aload_n hx hb dX8_splitAll_3 rfl (lv_at hl 0 rfl) ?_
    refine m_get (k := 36) (C := RX8) (T := TX8) (N := 18) (ref := "LiftFactorsModel") (v := .int (M1.2 36 10)) hx hb hi hts inX8_u hown hw (by decide) rfl 10 (by decide) q_95 rfl rfl dX8_splitAll_4 ?_
    refine lv_icmp_ge (tgt := 88) hx hb dX8_splitAll_7 (by decide) (fun hc => ?_) (fun hc => ?_)
    · replace h := ite_t hc h
      cases h
      exact k1 _ rfl _ _ _ (lv_sub hl [] rfl) hw
    · replace h := ite_f hc h
      refine lv_lconst (v := (0 : Int64)) hx hb dX8_splitAll_10 (by decide) ?_
      refine lv_lstore (lv' := [(4, .long (0 : Int64)), (0, .ref (adr 36)), (2, .int a1), (3, .int v2)]) hx hb dX8_splitAll_11 hl (by decide) rfl (fun ls hl => ?_)
      replace h := bnd h
      obtain ⟨M15, j14, h⟩ := h
      refine lp_W (Wst := fun (st : Mem × Int64) => ∀ (ls : Array Slot) (H : Heap) (locs : List Loc), lv_has ls 6 [(0, .ref (adr 36)), (2, .int a1), (3, .int v2), (4, .long st.2)] → wH G A s.heap s (LL adr) (wf G adr st.1) H locs → W p l e { frames := 5, cells := 0, slots := 0, locals := 136 } s m args below meth c H locs 0 0 Q (F0 m 13 ls [])) (fin := fun (r : Mem) => ∀ (ls : Array Slot) (H : Heap) (locs : List Loc), lv_has ls 6 [(0, .ref (adr 36)), (2, .int a1), (3, .int v2)] → wH G A s.heap s (LL adr) (wf G adr r) H locs → W p l e { frames := 5, cells := 0, slots := 0, locals := 136 } s m args below meth c H locs 0 0 Q (F0 m 82 ls [])) ?_ n _ _ j14 ?_ _ _ _ (lv_sub hl [1, 2, 3, 0] rfl) hw
      · clear h j14 hw hl
        intro ⟨M3, v4⟩ x h k1 k2 ls H locs hl hw
        (try dsimp only at k1 k2 hl hw ⊢)
        unfold l_X8_splitAll_13 at h
        (try dsimp only at h)
        refine lv_aload_n hx hb dX8_splitAll_13 rfl (lv_at hl 0 rfl) ?_
        refine m_get (k := 36) (C := RX8) (T := TX8) (N := 18) (ref := "LiftFactorsModel") (v := .ref (adr 42)) hx hb hi hts inX8_u hown hw (by decide) rfl 8 (by decide) q_1 rfl rfl dX8_splitAll_14 ?_
        refine lv_bipush (v := (24 : Int32)) hx hb dX8_splitAll_17 (by decide) ?_
        refine lv_iload_n hx hb dX8_splitAll_19 rfl (lv_at hl 2 rfl) ?_
        refine lv_iadd hx hb dX8_splitAll_20 ?_
        replace h := bnd h
        obtain ⟨v5, e5, h⟩ := h
        refine m_iald hx hb hi hw e5 dX8_splitAll_21 ?_
        refine lv_iload_n hx hb dX8_splitAll_22 rfl (lv_at hl 1 rfl) ?_
        refine lv_icmp_le (tgt := 82) hx hb dX8_splitAll_23 (by decide) (fun hc => ?_) (fun hc => ?_)
        · replace h := ite_t hc h
          cases h
          exact k1 _ rfl _ _ _ (lv_sub hl [0, 1, 2] rfl) hw
        · replace h := ite_f hc h
          refine lv_aload_n hx hb dX8_splitAll_26 rfl (lv_at hl 0 rfl) ?_
          refine lv_bipush (v := (24 : Int32)) hx hb dX8_splitAll_27 (by decide) ?_
          refine lv_iload_n hx hb dX8_splitAll_29 rfl (lv_at hl 2 rfl) ?_
          refine lv_iadd hx hb dX8_splitAll_30 ?_
          refine lv_iload_n hx hb dX8_splitAll_31 rfl (lv_at hl 1 rfl) ?_
          refine lv_lload hx hb dX8_splitAll_32 (lv_at hl 3 rfl) ?_
          replace h := bnd h
          obtain ⟨⟨v6, M7⟩, e6, h⟩ := h
          refine m_callVi (k := 36) (As := [.int ((24 : Int32) + v2), .int a1, .long v4]) (rest := []) cx.fix hi hw (cc_X8_splits (l := l) (G := G) (sz := H.size) hi e6) (by decide) rfl rfl (w_cV 3 hts q_111 q_112 q_113 q_114 q_115 rfl rfl (by decide) (by decide)) hl.1 rfl (lv_room (Nat.le_of_ble_eq_true rfl)) dX8_splitAll_34 (fun H locs hw => ?_)
          replace h := bnd h
          obtain ⟨M12, j13, h⟩ := h
          have kj : ∀ (ls : Array Slot) (H : Heap) (locs : List Loc), lv_has ls 6 [(0, .ref (adr 36)), (2, .int a1), (3, .int v2), (4, .long v4)] → wH G A s.heap s (LL adr) (wf G adr M12) H locs → W p l e { frames := 5, cells := 0, slots := 0, locals := 136 } s m args below meth c H locs 0 0 Q (F0 m 73 ls []) := by
            intro ls H locs hl hw
            refine lv_lload hx hb dX8_splitAll_73 (lv_at hl 3 rfl) ?_
            refine lv_lconst (v := (1 : Int64)) hx hb dX8_splitAll_75 (by decide) ?_
            refine lv_ladd hx hb dX8_splitAll_76 ?_
            refine lv_lstore (lv' := [(4, .long (v4 + (1 : Int64))), (0, .ref (adr 36)), (2, .int a1), (3, .int v2)]) hx hb dX8_splitAll_77 hl (by decide) rfl (fun ls hl => ?_)
            refine lv_goto (tgt := 13) hx hb dX8_splitAll_79 (by decide) ?_
            cases h
            exact k2 _ rfl _ _ _ (lv_sub hl [1, 2, 3, 0] rfl) hw
          clear h
          replace h := j13
          clear j13
          refine lv_if_eq (tgt := 73) hx hb dX8_splitAll_37 (by decide) (fun hc => ?_) (fun hc => ?_)
          · replace h := ite_t hc h
            cases h
            exact kj _ _ _ (lv_sub hl [0, 1, 2, 3] rfl) hw
          · replace h := ite_f hc h
            refine lv_aload_n hx hb dX8_splitAll_40 rfl (lv_at hl 0 rfl) ?_
            refine lv_bipush (v := (24 : Int32)) hx hb dX8_splitAll_41 (by decide) ?_
            refine lv_iload_n hx hb dX8_splitAll_43 rfl (lv_at hl 2 rfl) ?_
            refine lv_iadd hx hb dX8_splitAll_44 ?_
            refine lv_bipush (v := (20 : Int32)) hx hb dX8_splitAll_45 (by decide) ?_
            replace h := bnd h
            obtain ⟨v8, e8, h⟩ := h
            refine m_callVv (k := 36) (As := [.int ((24 : Int32) + v2), .int (20 : Int32)]) (rest := []) cx.fix hi hw (cc_X8_copy (l := l) (G := G) (sz := H.size) hi e8) (by decide) rfl rfl (w_cV 2 hts q_24 q_25 q_26 q_27 q_28 rfl rfl (by decide) (by decide)) hl.1 rfl (lv_room (Nat.le_of_ble_eq_true rfl)) dX8_splitAll_47 (fun H locs hw => ?_)
            refine lv_aload_n hx hb dX8_splitAll_50 rfl (lv_at hl 0 rfl) ?_
            refine lv_bipush (v := (20 : Int32)) hx hb dX8_splitAll_51 (by decide) ?_
            refine lv_bipush (v := (13 : Int32)) hx hb dX8_splitAll_53 (by decide) ?_
            replace h := bnd h
            obtain ⟨v9, e9, h⟩ := h
            refine m_callVv (k := 36) (As := [.int (20 : Int32), .int (13 : Int32)]) (rest := []) cx.fix hi hw (cc_X8_rest (l := l) (G := G) (sz := H.size) hi e9) (by decide) rfl rfl (w_cV 2 hts q_42 q_43 q_44 q_45 q_46 rfl rfl (by decide) (by decide)) hl.1 rfl (lv_room (Nat.le_of_ble_eq_true rfl)) dX8_splitAll_55 (fun H locs hw => ?_)
            refine lv_aload_n hx hb dX8_splitAll_58 rfl (lv_at hl 0 rfl) ?_
            refine lv_iconst (v := (3 : Int32)) hx hb dX8_splitAll_59 (by decide) ?_
            refine lv_bipush (v := (24 : Int32)) hx hb dX8_splitAll_60 (by decide) ?_
            refine lv_iload_n hx hb dX8_splitAll_62 rfl (lv_at hl 2 rfl) ?_
            refine lv_iadd hx hb dX8_splitAll_63 ?_
            replace h := bnd h
            obtain ⟨v10, e10, h⟩ := h
            refine m_callVv (k := 36) (As := [.int (3 : Int32), .int ((24 : Int32) + v2)]) (rest := []) cx.fix hi hw (cc_X8_copy (l := l) (G := G) (sz := H.size) hi e10) (by decide) rfl rfl (w_cV 2 hts q_24 q_25 q_26 q_27 q_28 rfl rfl (by decide) (by decide)) hl.1 rfl (lv_room (Nat.le_of_ble_eq_true rfl)) dX8_splitAll_64 (fun H locs hw => ?_)
            refine lv_aload_n hx hb dX8_splitAll_67 rfl (lv_at hl 0 rfl) ?_
            refine lv_bipush (v := (13 : Int32)) hx hb dX8_splitAll_68 (by decide) ?_
            replace h := bnd h
            obtain ⟨v11, e11, h⟩ := h
            refine m_callVv (k := 36) (As := [.int (13 : Int32)]) (rest := []) cx.fix hi hw (cc_X8_addPart (l := l) (G := G) (sz := H.size) hi e11) (by decide) rfl rfl (w_cV 1 hts q_116 q_117 q_118 q_119 q_120 rfl rfl (by decide) (by decide)) hl.1 rfl (lv_room (Nat.le_of_ble_eq_true rfl)) dX8_splitAll_70 (fun H locs hw => ?_)
            cases h
            exact kj _ _ _ (lv_sub hl [0, 1, 2, 3] rfl) hw
      · clear hw hl
        intro ls H locs hl hw
        (try dsimp only at hl hw ⊢)
        refine lv_iinc (v := v2 + 1) (lv' := [(3, .int (v2 + 1)), (0, .ref (adr 36)), (2, .int a1)]) hx hb dX8_splitAll_82 hl (k := 2) rfl (inc_p _ (by decide)) (by decide) rfl (fun ls hl => ?_)
        refine lv_goto (tgt := 2) hx hb dX8_splitAll_85 (by decide) ?_
        cases h
        exact k2 _ rfl _ _ _ (lv_sub hl [1, 2, 0] rfl) hw
  · clear hw hl
    intro ls H locs hl hw
    (try dsimp only at hl hw ⊢)
    cases h
    exact kr _ _ _ _ dX8_splitAll_88 hw
theorem cc_X8_splitAll {l : Launch} {G : gG} {adr : Nat → Nat} {sz : Nat} (hi : adi adr) {n : Nat} {a0 : Int32} {a1 : Int32} {M M' : Mem} (h : f_X8_splitAll n a0 a1 M = some M') : mV l yX8_splitAll cX8_splitAll 6 none { frames := 5, cells := 0, slots := 0, locals := 136 } G adr [.ref (adr 36), .int a0, .int a1] M sz M' := by
  refine wEnter (by decide) (Nat.le_of_ble_eq_true rfl) ?_
  intro p e s m below meth c ls cx hinit hl hsz hw
  exact b_X8_splitAll cx hi h (fun pc ls H locs hd hw => w_vret (post := fun (u : Mem) => u = M') (lf := fun u => (LL adr, wf G adr u)) cx.1 cx.2.1 cx.2.2.1 cx.2.2.2.2.2.2 M' hw rfl hd) hl hw
theorem q_121 : Cond.methodLink RX8 148 yX8_lessLetter ∈ uU := uU_in (by decide +kernel) (by decide +kernel)
theorem q_122 : Cond.instanceMethod yX8_lessLetter ∈ uU := uU_in (by decide +kernel) (by decide +kernel)
theorem q_123 : Cond.selects yX8_lessLetter.cls yX8_lessLetter yX8_lessLetter ∈ uU := uU_in (by decide +kernel) (by decide +kernel)
theorem q_124 : Cond.initialized yX8_lessLetter.cls ∈ uU := uU_in (by decide +kernel) (by decide +kernel)
theorem q_125 : Cond.code yX8_lessLetter cX8_lessLetter 3 none ∈ uU := uU_in (by decide +kernel) (by decide +kernel)
theorem q_126 : Cond.methodLink RX8 151 yX8_splitAll ∈ uU := uU_in (by decide +kernel) (by decide +kernel)
theorem q_127 : Cond.instanceMethod yX8_splitAll ∈ uU := uU_in (by decide +kernel) (by decide +kernel)
theorem q_128 : Cond.selects yX8_splitAll.cls yX8_splitAll yX8_splitAll ∈ uU := uU_in (by decide +kernel) (by decide +kernel)
theorem q_129 : Cond.initialized yX8_splitAll.cls ∈ uU := uU_in (by decide +kernel) (by decide +kernel)
theorem q_130 : Cond.code yX8_splitAll cX8_splitAll 6 none ∈ uU := uU_in (by decide +kernel) (by decide +kernel)
def l_X8_factorModulo_21 (n : Nat) : Mem × Int32 → Option (((Mem) ⊕ (Mem)) ⊕ (Mem × Int32)) := fun (M4, v5) =>
  Option.bind (ldI M4 42 (12 : Int32)) fun v6 =>
  if v6 ≤ 0 then
    some (.inl (.inr M4))
  else
    Option.bind (ldI M4 42 (12 : Int32)) fun v7 =>
    if ((2 : Int32) * v5) ≤ v7 then
      Option.bind (f_X8_copy n (10 : Int32) (16 : Int32) M4) fun v8 =>
      Option.bind (f_X8_raise n (16 : Int32) (v8.1 36 9) (12 : Int32) (10 : Int32) v8) fun v9 =>
      Option.bind (f_X8_copy n (10 : Int32) (11 : Int32) v9) fun v10 =>
      Option.bind (f_X8_lessLetter n (11 : Int32) v10) fun v11 =>
      Option.bind (f_X8_copy n (12 : Int32) (17 : Int32) v11) fun v12 =>
      Option.bind (f_X8_commonRow n (17 : Int32) (11 : Int32) (18 : Int32) v12) fun v13 =>
      Option.bind (ldI v13 42 (18 : Int32)) fun v14 =>
      Option.bind (
        if v14 ≤ 0 then
          some v13
        else
          Option.bind (f_X8_addPart n (18 : Int32) v13) fun v15 =>
          Option.bind (f_X8_copy n (12 : Int32) (17 : Int32) v15) fun v16 =>
          Option.bind (f_X8_rest n (17 : Int32) (18 : Int32) v16) fun v17 =>
          Option.bind (f_X8_copy n (3 : Int32) (12 : Int32) v17) fun v18 =>
          Option.bind (f_X8_splitAll n (v13.2 36 10) v5 v18) fun v19 =>
          Option.bind (ldI v19 42 (12 : Int32)) fun v20 =>
          if v20 ≤ 0 then
            some v19
          else
            Option.bind (f_X8_rest n (10 : Int32) (12 : Int32) v19) fun v21 =>
            some v21) fun M22 =>
      some (.inr (M22, v5 + 1))
    else
      Option.bind (f_X8_addPart n (12 : Int32) M4) fun v24 =>
      some (.inl (.inl v24))
def f_X8_factorModulo (n : Nat) (M : Mem) : Option Mem :=
  Option.bind (ptI M 36 10 (0 : Int32)) fun v1 =>
  Option.bind (f_X8_letter (10 : Int32) v1) fun v2 =>
  Option.bind (f_X8_rest n (10 : Int32) (12 : Int32) v2) fun v3 =>
  Option.bind (lpF (l_X8_factorModulo_21 n) n (v3, (1 : Int32))) fun r => match r with
  | .inl o => some o
  | .inr M26 =>
    some M26
set_option maxRecDepth 100000 in
set_option maxHeartbeats 8000000 in
theorem b_X8_factorModulo {p : Program} {l : Launch} {e : Env} {s : State} {m : MethodId} {args : Array Value} {below : List Frame} {meth : Method} {c : Code} {Q : State → Prop} {G : gG} {A : Nat → Prop} {adr : Nat → Nat} (cx : cX p s m args meth c cX8_factorModulo none 3 yX8_factorModulo.cls) (hi : adi adr) {n : Nat} {M M' : Mem} 
    (h : f_X8_factorModulo n M = some M')
    (kr : ∀ (pc : Nat) (ls : Array Slot) (H : Heap) (locs : List Loc), decode cX8_factorModulo pc = .ok (.return_, 1) → wH G A s.heap s (LL adr) (wf G adr M') H locs → W p l e { frames := 6, cells := 0, slots := 0, locals := 161 } s m args below meth c H locs 0 0 Q (F0 m pc ls []))
    {ls : Array Slot} {H : Heap} {locs : List Loc} (hl : lv_has ls 3 [(0, .ref (adr 36))]) (hw : wH G A s.heap s (LL adr) (wf G adr M) H locs) : W p l e { frames := 6, cells := 0, slots := 0, locals := 161 } s m args below meth c H locs 0 0 Q (F0 m 0 ls []) := by
  obtain ⟨hx, hb, -, -, hown, hts, -⟩ := id cx
  have hown : s.vm.findClass RX8 = some m.cls := hown
  unfold f_X8_factorModulo at h
  refine lv_aload_n hx hb dX8_factorModulo_0 rfl (lv_at hl 0 rfl) ?_
  refine lv_iconst (v := (0 : Int32)) hx hb dX8_factorModulo_1 (by decide) ?_
  replace h := bnd h
  obtain ⟨v1, e1, h⟩ := h
  obtain rfl := pt_s e1
  refine m_putI (k := 36) (C := RX8) (T := TX8) (N := 18) (ref := "LiftFactorsModel") hx hb hi hts inX8_u tyX8 tyX8_ok nmX8 hown hw (by decide) rfl 10 (by decide) q_95 rfl rfl (by decide +kernel) rfl dX8_factorModulo_2 (fun H locs hw => ?_)
  obtain ⟨v1, e1⟩ : ∃ z9, z9 = sI M 36 10 (0 : Int32) := ⟨_, rfl⟩
  rw [← e1] at h hw
  refine lv_aload_n hx hb dX8_factorModulo_5 rfl (lv_at hl 0 rfl) ?_
  refine lv_bipush (v := (10 : Int32)) hx hb dX8_factorModulo_6 (by decide) ?_
  replace h := bnd h
  obtain ⟨v2, e2, h⟩ := h
  refine m_callVv (k := 36) (As := [.int (10 : Int32)]) (rest := []) cx.fix hi hw (cc_X8_letter (l := l) (G := G) (sz := H.size) hi e2) (by decide) rfl rfl (w_cV 1 hts q_96 q_97 q_98 q_99 q_100 rfl rfl (by decide) (by decide)) hl.1 rfl (lv_room (Nat.le_of_ble_eq_true rfl)) dX8_factorModulo_8 (fun H locs hw => ?_)
  refine lv_aload_n hx hb dX8_factorModulo_11 rfl (lv_at hl 0 rfl) ?_
  refine lv_bipush (v := (10 : Int32)) hx hb dX8_factorModulo_12 (by decide) ?_
  refine lv_bipush (v := (12 : Int32)) hx hb dX8_factorModulo_14 (by decide) ?_
  replace h := bnd h
  obtain ⟨v3, e3, h⟩ := h
  refine m_callVv (k := 36) (As := [.int (10 : Int32), .int (12 : Int32)]) (rest := []) cx.fix hi hw (cc_X8_rest (l := l) (G := G) (sz := H.size) hi e3) (by decide) rfl rfl (w_cV 2 hts q_42 q_43 q_44 q_45 q_46 rfl rfl (by decide) (by decide)) hl.1 rfl (lv_room (Nat.le_of_ble_eq_true rfl)) dX8_factorModulo_16 (fun H locs hw => ?_)
  refine lv_iconst (v := (1 : Int32)) hx hb dX8_factorModulo_19 (by decide) ?_
  refine lv_istore_n (lv' := [(1, .int (1 : Int32)), (0, .ref (adr 36))]) hx hb dX8_factorModulo_20 rfl hl (by decide) rfl (fun ls hl => ?_)
  replace h := bnd h
  obtain ⟨o27, j25, h⟩ := h
  refine lp_W (Wst := fun (st : Mem × Int32) => ∀ (ls : Array Slot) (H : Heap) (locs : List Loc), lv_has ls 3 [(0, .ref (adr 36)), (1, .int st.2)] → wH G A s.heap s (LL adr) (wf G adr st.1) H locs → W p l e { frames := 6, cells := 0, slots := 0, locals := 161 } s m args below meth c H locs 0 0 Q (F0 m 21 ls [])) (fin := fun (r : (Mem) ⊕ (Mem)) => match r with
      | .inl o => ∀ (pc : Nat) (ls : Array Slot) (H : Heap) (locs : List Loc), decode cX8_factorModulo pc = .ok (.return_, 1) → wH G A s.heap s (LL adr) (wf G adr o) H locs → W p l e { frames := 6, cells := 0, slots := 0, locals := 161 } s m args below meth c H locs 0 0 Q (F0 m pc ls [])
      | .inr q => ∀ (ls : Array Slot) (H : Heap) (locs : List Loc), lv_has ls 3 [] → wH G A s.heap s (LL adr) (wf G adr q) H locs → W p l e { frames := 6, cells := 0, slots := 0, locals := 161 } s m args below meth c H locs 0 0 Q (F0 m 179 ls [])) ?_ n _ _ j25 ?_ _ _ _ (lv_sub hl [1, 0] rfl) hw
  · clear h j25 hw hl
    intro ⟨M4, v5⟩ x h k1 k2 ls H locs hl hw
    (try dsimp only at k2 hl hw ⊢)
    unfold l_X8_factorModulo_21 at h
    (try dsimp only at h)
    refine lv_aload_n hx hb dX8_factorModulo_21 rfl (lv_at hl 0 rfl) ?_
    refine m_get (k := 36) (C := RX8) (T := TX8) (N := 18) (ref := "LiftFactorsModel") (v := .ref (adr 42)) hx hb hi hts inX8_u hown hw (by decide) rfl 8 (by decide) q_1 rfl rfl dX8_factorModulo_22 ?_
    refine lv_bipush (v := (12 : Int32)) hx hb dX8_factorModulo_25 (by decide) ?_
    replace h := bnd h
    obtain ⟨v6, e6, h⟩ := h
    refine m_iald hx hb hi hw e6 dX8_factorModulo_27 ?_
    refine lv_if_le (tgt := 179) hx hb dX8_factorModulo_28 (by decide) (fun hc => ?_) (fun hc => ?_)
    · replace h := ite_t hc h
      cases h
      exact k1 _ rfl _ _ _ (lv_sub hl [] rfl) hw
    · replace h := ite_f hc h
      refine lv_iconst (v := (2 : Int32)) hx hb dX8_factorModulo_31 (by decide) ?_
      refine lv_iload_n hx hb dX8_factorModulo_32 rfl (lv_at hl 1 rfl) ?_
      refine lv_imul hx hb dX8_factorModulo_33 ?_
      refine lv_aload_n hx hb dX8_factorModulo_34 rfl (lv_at hl 0 rfl) ?_
      refine m_get (k := 36) (C := RX8) (T := TX8) (N := 18) (ref := "LiftFactorsModel") (v := .ref (adr 42)) hx hb hi hts inX8_u hown hw (by decide) rfl 8 (by decide) q_1 rfl rfl dX8_factorModulo_35 ?_
      refine lv_bipush (v := (12 : Int32)) hx hb dX8_factorModulo_38 (by decide) ?_
      replace h := bnd h
      obtain ⟨v7, e7, h⟩ := h
      refine m_iald hx hb hi hw e7 dX8_factorModulo_40 ?_
      refine lv_icmp_le (tgt := 51) hx hb dX8_factorModulo_41 (by decide) (fun hc => ?_) (fun hc => ?_)
      · replace h := ite_t hc h
        refine lv_aload_n hx hb dX8_factorModulo_51 rfl (lv_at hl 0 rfl) ?_
        refine lv_bipush (v := (10 : Int32)) hx hb dX8_factorModulo_52 (by decide) ?_
        refine lv_bipush (v := (16 : Int32)) hx hb dX8_factorModulo_54 (by decide) ?_
        replace h := bnd h
        obtain ⟨v8, e8, h⟩ := h
        refine m_callVv (k := 36) (As := [.int (10 : Int32), .int (16 : Int32)]) (rest := []) cx.fix hi hw (cc_X8_copy (l := l) (G := G) (sz := H.size) hi e8) (by decide) rfl rfl (w_cV 2 hts q_24 q_25 q_26 q_27 q_28 rfl rfl (by decide) (by decide)) hl.1 rfl (lv_room (Nat.le_of_ble_eq_true rfl)) dX8_factorModulo_56 (fun H locs hw => ?_)
        refine lv_aload_n hx hb dX8_factorModulo_59 rfl (lv_at hl 0 rfl) ?_
        refine lv_bipush (v := (16 : Int32)) hx hb dX8_factorModulo_60 (by decide) ?_
        refine lv_aload_n hx hb dX8_factorModulo_62 rfl (lv_at hl 0 rfl) ?_
        refine m_get (k := 36) (C := RX8) (T := TX8) (N := 18) (ref := "LiftFactorsModel") (v := .long (v8.1 36 9)) hx hb hi hts inX8_u hown hw (by decide) rfl 9 (by decide) q_29 rfl rfl dX8_factorModulo_63 ?_
        refine lv_bipush (v := (12 : Int32)) hx hb dX8_factorModulo_66 (by decide) ?_
        refine lv_bipush (v := (10 : Int32)) hx hb dX8_factorModulo_68 (by decide) ?_
        replace h := bnd h
        obtain ⟨v9, e9, h⟩ := h
        refine m_callVv (k := 36) (As := [.int (16 : Int32), .long (v8.1 36 9), .int (12 : Int32), .int (10 : Int32)]) (rest := []) cx.fix hi hw (cc_X8_raise (l := l) (G := G) (sz := H.size) hi e9) (by decide) rfl rfl (w_cV 4 hts q_106 q_107 q_108 q_109 q_110 rfl rfl (by decide) (by decide)) hl.1 rfl (lv_room (Nat.le_of_ble_eq_true rfl)) dX8_factorModulo_70 (fun H locs hw => ?_)
        refine lv_aload_n hx hb dX8_factorModulo_73 rfl (lv_at hl 0 rfl) ?_
        refine lv_bipush (v := (10 : Int32)) hx hb dX8_factorModulo_74 (by decide) ?_
        refine lv_bipush (v := (11 : Int32)) hx hb dX8_factorModulo_76 (by decide) ?_
        replace h := bnd h
        obtain ⟨v10, e10, h⟩ := h
        refine m_callVv (k := 36) (As := [.int (10 : Int32), .int (11 : Int32)]) (rest := []) cx.fix hi hw (cc_X8_copy (l := l) (G := G) (sz := H.size) hi e10) (by decide) rfl rfl (w_cV 2 hts q_24 q_25 q_26 q_27 q_28 rfl rfl (by decide) (by decide)) hl.1 rfl (lv_room (Nat.le_of_ble_eq_true rfl)) dX8_factorModulo_78 (fun H locs hw => ?_)
        refine lv_aload_n hx hb dX8_factorModulo_81 rfl (lv_at hl 0 rfl) ?_
        refine lv_bipush (v := (11 : Int32)) hx hb dX8_factorModulo_82 (by decide) ?_
        replace h := bnd h
        obtain ⟨v11, e11, h⟩ := h
        refine m_callVv (k := 36) (As := [.int (11 : Int32)]) (rest := []) cx.fix hi hw (cc_X8_lessLetter (l := l) (G := G) (sz := H.size) hi e11) (by decide) rfl rfl (w_cV 1 hts q_121 q_122 q_123 q_124 q_125 rfl rfl (by decide) (by decide)) hl.1 rfl (lv_room (Nat.le_of_ble_eq_true rfl)) dX8_factorModulo_84 (fun H locs hw => ?_)
        refine lv_aload_n hx hb dX8_factorModulo_87 rfl (lv_at hl 0 rfl) ?_
        refine lv_bipush (v := (12 : Int32)) hx hb dX8_factorModulo_88 (by decide) ?_
        refine lv_bipush (v := (17 : Int32)) hx hb dX8_factorModulo_90 (by decide) ?_
        replace h := bnd h
        obtain ⟨v12, e12, h⟩ := h
        refine m_callVv (k := 36) (As := [.int (12 : Int32), .int (17 : Int32)]) (rest := []) cx.fix hi hw (cc_X8_copy (l := l) (G := G) (sz := H.size) hi e12) (by decide) rfl rfl (w_cV 2 hts q_24 q_25 q_26 q_27 q_28 rfl rfl (by decide) (by decide)) hl.1 rfl (lv_room (Nat.le_of_ble_eq_true rfl)) dX8_factorModulo_92 (fun H locs hw => ?_)
        refine lv_aload_n hx hb dX8_factorModulo_95 rfl (lv_at hl 0 rfl) ?_
        refine lv_bipush (v := (17 : Int32)) hx hb dX8_factorModulo_96 (by decide) ?_
        refine lv_bipush (v := (11 : Int32)) hx hb dX8_factorModulo_98 (by decide) ?_
        refine lv_bipush (v := (18 : Int32)) hx hb dX8_factorModulo_100 (by decide) ?_
        replace h := bnd h
        obtain ⟨v13, e13, h⟩ := h
        refine m_callVv (k := 36) (As := [.int (17 : Int32), .int (11 : Int32), .int (18 : Int32)]) (rest := []) cx.fix hi hw (cc_X8_commonRow (l := l) (G := G) (sz := H.size) hi e13) (by decide) rfl rfl (w_cV 3 hts q_79 q_80 q_81 q_82 q_83 rfl rfl (by decide) (by decide)) hl.1 rfl (lv_room (Nat.le_of_ble_eq_true rfl)) dX8_factorModulo_102 (fun H locs hw => ?_)
        refine lv_aload_n hx hb dX8_factorModulo_105 rfl (lv_at hl 0 rfl) ?_
        refine m_get (k := 36) (C := RX8) (T := TX8) (N := 18) (ref := "LiftFactorsModel") (v := .ref (adr 42)) hx hb hi hts inX8_u hown hw (by decide) rfl 8 (by decide) q_1 rfl rfl dX8_factorModulo_106 ?_
        refine lv_bipush (v := (18 : Int32)) hx hb dX8_factorModulo_109 (by decide) ?_
        replace h := bnd h
        obtain ⟨v14, e14, h⟩ := h
        refine m_iald hx hb hi hw e14 dX8_factorModulo_111 ?_
        replace h := bnd h
        obtain ⟨M22, j23, h⟩ := h
        have kj : ∀ (ls : Array Slot) (H : Heap) (locs : List Loc), lv_has ls 3 [(0, .ref (adr 36)), (1, .int v5)] → wH G A s.heap s (LL adr) (wf G adr M22) H locs → W p l e { frames := 6, cells := 0, slots := 0, locals := 161 } s m args below meth c H locs 0 0 Q (F0 m 173 ls []) := by
          intro ls H locs hl hw
          refine lv_iinc (v := v5 + 1) (lv' := [(1, .int (v5 + 1)), (0, .ref (adr 36))]) hx hb dX8_factorModulo_173 hl (k := 1) rfl (inc_p _ (by decide)) (by decide) rfl (fun ls hl => ?_)
          refine lv_goto (tgt := 21) hx hb dX8_factorModulo_176 (by decide) ?_
          cases h
          exact k2 _ rfl _ _ _ (lv_sub hl [1, 0] rfl) hw
        clear h
        replace h := j23
        clear j23
        refine lv_if_le (tgt := 173) hx hb dX8_factorModulo_112 (by decide) (fun hc => ?_) (fun hc => ?_)
        · replace h := ite_t hc h
          cases h
          exact kj _ _ _ (lv_sub hl [0, 1] rfl) hw
        · replace h := ite_f hc h
          refine lv_aload_n hx hb dX8_factorModulo_115 rfl (lv_at hl 0 rfl) ?_
          refine m_get (k := 36) (C := RX8) (T := TX8) (N := 18) (ref := "LiftFactorsModel") (v := .int (v13.2 36 10)) hx hb hi hts inX8_u hown hw (by decide) rfl 10 (by decide) q_95 rfl rfl dX8_factorModulo_116 ?_
          refine lv_istore_n (lv' := [(2, .int (v13.2 36 10)), (0, .ref (adr 36)), (1, .int v5)]) hx hb dX8_factorModulo_119 rfl hl (by decide) rfl (fun ls hl => ?_)
          refine lv_aload_n hx hb dX8_factorModulo_120 rfl (lv_at hl 1 rfl) ?_
          refine lv_bipush (v := (18 : Int32)) hx hb dX8_factorModulo_121 (by decide) ?_
          replace h := bnd h
          obtain ⟨v15, e15, h⟩ := h
          refine m_callVv (k := 36) (As := [.int (18 : Int32)]) (rest := []) cx.fix hi hw (cc_X8_addPart (l := l) (G := G) (sz := H.size) hi e15) (by decide) rfl rfl (w_cV 1 hts q_116 q_117 q_118 q_119 q_120 rfl rfl (by decide) (by decide)) hl.1 rfl (lv_room (Nat.le_of_ble_eq_true rfl)) dX8_factorModulo_123 (fun H locs hw => ?_)
          refine lv_aload_n hx hb dX8_factorModulo_126 rfl (lv_at hl 1 rfl) ?_
          refine lv_bipush (v := (12 : Int32)) hx hb dX8_factorModulo_127 (by decide) ?_
          refine lv_bipush (v := (17 : Int32)) hx hb dX8_factorModulo_129 (by decide) ?_
          replace h := bnd h
          obtain ⟨v16, e16, h⟩ := h
          refine m_callVv (k := 36) (As := [.int (12 : Int32), .int (17 : Int32)]) (rest := []) cx.fix hi hw (cc_X8_copy (l := l) (G := G) (sz := H.size) hi e16) (by decide) rfl rfl (w_cV 2 hts q_24 q_25 q_26 q_27 q_28 rfl rfl (by decide) (by decide)) hl.1 rfl (lv_room (Nat.le_of_ble_eq_true rfl)) dX8_factorModulo_131 (fun H locs hw => ?_)
          refine lv_aload_n hx hb dX8_factorModulo_134 rfl (lv_at hl 1 rfl) ?_
          refine lv_bipush (v := (17 : Int32)) hx hb dX8_factorModulo_135 (by decide) ?_
          refine lv_bipush (v := (18 : Int32)) hx hb dX8_factorModulo_137 (by decide) ?_
          replace h := bnd h
          obtain ⟨v17, e17, h⟩ := h
          refine m_callVv (k := 36) (As := [.int (17 : Int32), .int (18 : Int32)]) (rest := []) cx.fix hi hw (cc_X8_rest (l := l) (G := G) (sz := H.size) hi e17) (by decide) rfl rfl (w_cV 2 hts q_42 q_43 q_44 q_45 q_46 rfl rfl (by decide) (by decide)) hl.1 rfl (lv_room (Nat.le_of_ble_eq_true rfl)) dX8_factorModulo_139 (fun H locs hw => ?_)
          refine lv_aload_n hx hb dX8_factorModulo_142 rfl (lv_at hl 1 rfl) ?_
          refine lv_iconst (v := (3 : Int32)) hx hb dX8_factorModulo_143 (by decide) ?_
          refine lv_bipush (v := (12 : Int32)) hx hb dX8_factorModulo_144 (by decide) ?_
          replace h := bnd h
          obtain ⟨v18, e18, h⟩ := h
          refine m_callVv (k := 36) (As := [.int (3 : Int32), .int (12 : Int32)]) (rest := []) cx.fix hi hw (cc_X8_copy (l := l) (G := G) (sz := H.size) hi e18) (by decide) rfl rfl (w_cV 2 hts q_24 q_25 q_26 q_27 q_28 rfl rfl (by decide) (by decide)) hl.1 rfl (lv_room (Nat.le_of_ble_eq_true rfl)) dX8_factorModulo_146 (fun H locs hw => ?_)
          refine lv_aload_n hx hb dX8_factorModulo_149 rfl (lv_at hl 1 rfl) ?_
          refine lv_iload_n hx hb dX8_factorModulo_150 rfl (lv_at hl 0 rfl) ?_
          refine lv_iload_n hx hb dX8_factorModulo_151 rfl (lv_at hl 2 rfl) ?_
          replace h := bnd h
          obtain ⟨v19, e19, h⟩ := h
          refine m_callVv (k := 36) (As := [.int (v13.2 36 10), .int v5]) (rest := []) cx.fix hi hw (cc_X8_splitAll (l := l) (G := G) (sz := H.size) hi e19) (by decide) rfl rfl (w_cV 2 hts q_126 q_127 q_128 q_129 q_130 rfl rfl (by decide) (by decide)) hl.1 rfl (lv_room (Nat.le_of_ble_eq_true rfl)) dX8_factorModulo_152 (fun H locs hw => ?_)
          refine lv_aload_n hx hb dX8_factorModulo_155 rfl (lv_at hl 1 rfl) ?_
          refine m_get (k := 36) (C := RX8) (T := TX8) (N := 18) (ref := "LiftFactorsModel") (v := .ref (adr 42)) hx hb hi hts inX8_u hown hw (by decide) rfl 8 (by decide) q_1 rfl rfl dX8_factorModulo_156 ?_
          refine lv_bipush (v := (12 : Int32)) hx hb dX8_factorModulo_159 (by decide) ?_
          replace h := bnd h
          obtain ⟨v20, e20, h⟩ := h
          refine m_iald hx hb hi hw e20 dX8_factorModulo_161 ?_
          refine lv_if_le (tgt := 173) hx hb dX8_factorModulo_162 (by decide) (fun hc => ?_) (fun hc => ?_)
          · replace h := ite_t hc h
            cases h
            exact kj _ _ _ (lv_sub hl [1, 2] rfl) hw
          · replace h := ite_f hc h
            refine lv_aload_n hx hb dX8_factorModulo_165 rfl (lv_at hl 1 rfl) ?_
            refine lv_bipush (v := (10 : Int32)) hx hb dX8_factorModulo_166 (by decide) ?_
            refine lv_bipush (v := (12 : Int32)) hx hb dX8_factorModulo_168 (by decide) ?_
            replace h := bnd h
            obtain ⟨v21, e21, h⟩ := h
            refine m_callVv (k := 36) (As := [.int (10 : Int32), .int (12 : Int32)]) (rest := []) cx.fix hi hw (cc_X8_rest (l := l) (G := G) (sz := H.size) hi e21) (by decide) rfl rfl (w_cV 2 hts q_42 q_43 q_44 q_45 q_46 rfl rfl (by decide) (by decide)) hl.1 rfl (lv_room (Nat.le_of_ble_eq_true rfl)) dX8_factorModulo_170 (fun H locs hw => ?_)
            cases h
            exact kj _ _ _ (lv_sub hl [1, 2] rfl) hw
      · replace h := ite_f hc h
        refine lv_aload_n hx hb dX8_factorModulo_44 rfl (lv_at hl 0 rfl) ?_
        refine lv_bipush (v := (12 : Int32)) hx hb dX8_factorModulo_45 (by decide) ?_
        replace h := bnd h
        obtain ⟨v24, e24, h⟩ := h
        refine m_callVv (k := 36) (As := [.int (12 : Int32)]) (rest := []) cx.fix hi hw (cc_X8_addPart (l := l) (G := G) (sz := H.size) hi e24) (by decide) rfl rfl (w_cV 1 hts q_116 q_117 q_118 q_119 q_120 rfl rfl (by decide) (by decide)) hl.1 rfl (lv_room (Nat.le_of_ble_eq_true rfl)) dX8_factorModulo_47 (fun H locs hw => ?_)
        cases h
        exact k1 _ rfl _ _ _ _ dX8_factorModulo_50 hw
  · clear hw hl j25
    rcases o27 with o9 | M26
    · cases h
      exact kr
    · intro ls H locs hl hw
      (try dsimp only at h hl hw ⊢)
      cases h
      exact kr _ _ _ _ dX8_factorModulo_179 hw
theorem cc_X8_factorModulo {l : Launch} {G : gG} {adr : Nat → Nat} {sz : Nat} (hi : adi adr) {n : Nat} {M M' : Mem} (h : f_X8_factorModulo n M = some M') : mV l yX8_factorModulo cX8_factorModulo 3 none { frames := 6, cells := 0, slots := 0, locals := 161 } G adr [.ref (adr 36)] M sz M' := by
  refine wEnter (by decide) (Nat.le_of_ble_eq_true rfl) ?_
  intro p e s m below meth c ls cx hinit hl hsz hw
  exact b_X8_factorModulo cx hi h (fun pc ls H locs hd hw => w_vret (post := fun (u : Mem) => u = M') (lf := fun u => (LL adr, wf G adr u)) cx.1 cx.2.1 cx.2.2.1 cx.2.2.2.2.2.2 M' hw rfl hd) hl hw
def l_X8_candidate_69 (c10 : Int32) : Mem × Int32 → Option ((Mem) ⊕ (Mem × Int32)) := fun (M8, v9) =>
  if c10 < v9 then
    some (.inl M8)
  else
    Option.bind (stJ M8 41 ((264 : Int32) + v9) (0 : Int64)) fun v11 =>
    some (.inr (v11, v9 + 1))
def l_X8_candidate_112 (v5 : Int32) (v15 : Int32) : Mem × Int32 → Option ((Mem) ⊕ (Mem × Int32)) := fun (M18, v19) =>
  Option.bind (ldI M18 42 ((24 : Int32) + v5)) fun v20 =>
  if v20 < v19 then
    some (.inl M18)
  else
    Option.bind (ldJ M18 41 (((264 : Int32) + v15) + v19)) fun v21 =>
    Option.bind (ldJ M18 41 ((168 : Int32) + v15)) fun v22 =>
    Option.bind (ldJ M18 41 (((24 : Int32) * ((24 : Int32) + v5)) + v19)) fun v23 =>
    Option.bind (f_X8_product v22 v23 M18) fun v24 =>
    Option.bind (rmJ (v21 + v24) (M18.1 36 9)) fun v25 =>
    Option.bind (stJ M18 41 (((264 : Int32) + v15) + v19) v25) fun v26 =>
    some (.inr (v26, v19 + 1))
def l_X8_candidate_97 (n : Nat) (v5 : Int32) : Mem × Int32 → Option ((Mem) ⊕ (Mem × Int32)) := fun (M14, v15) =>
  Option.bind (ldI M14 42 (7 : Int32)) fun v17 =>
  if v17 < v15 then
    some (.inl M14)
  else
    Option.bind (lpF (l_X8_candidate_112 v5 v15) n (M14, (0 : Int32))) fun M28 =>
    some (.inr (M28, v15 + 1))
def l_X8_candidate_27 (n : Nat) (a0 : Int32) : Mem × Int32 → Option ((Mem) ⊕ (Mem × Int32)) := fun (M4, v5) =>
  if (M4.2 36 10) ≤ v5 then
    some (.inl M4)
  else
    Option.bind (
      if ((a0 >>> (v5 &&& 31)) &&& (1 : Int32)) = (1 : Int32) then
        Option.bind (ldI M4 42 (7 : Int32)) fun v6 =>
        Option.bind (ldI M4 42 ((24 : Int32) + v5)) fun v7 =>
        Option.bind (lpF (l_X8_candidate_69 (v6 + v7)) n (M4, (0 : Int32))) fun M13 =>
        Option.bind (lpF (l_X8_candidate_97 n v5) n (M13, (0 : Int32))) fun M30 =>
        Option.bind (f_X8_trim n (11 : Int32) (v6 + v7) M30) fun v31 =>
        Option.bind (f_X8_copy n (11 : Int32) (7 : Int32) v31) fun v32 =>
        some v32
      else
        some M4) fun M33 =>
    some (.inr (M33, v5 + 1))
def f_X8_candidate (n : Nat) (a0 : Int32) (M : Mem) : Option Mem :=
  Option.bind (ldI M 42 (19 : Int32)) fun v1 =>
  Option.bind (ldJ M 41 ((456 : Int32) + v1)) fun v2 =>
  Option.bind (f_X8_constant (7 : Int32) v2 M) fun v3 =>
  Option.bind (lpF (l_X8_candidate_27 n a0) n (v3, (0 : Int32))) fun M36 =>
  Option.bind (f_X8_center n (7 : Int32) M36) fun v37 =>
  Option.bind (f_X8_primitive n (7 : Int32) v37) fun (v38, M39) =>
  some M39
set_option maxRecDepth 100000 in
set_option maxHeartbeats 8000000 in
theorem b_X8_candidate {p : Program} {l : Launch} {e : Env} {s : State} {m : MethodId} {args : Array Value} {below : List Frame} {meth : Method} {c : Code} {Q : State → Prop} {G : gG} {A : Nat → Prop} {adr : Nat → Nat} (cx : cX p s m args meth c cX8_candidate none 8 yX8_candidate.cls) (hi : adi adr) {n : Nat} {a0 : Int32} {M M' : Mem} 
    (h : f_X8_candidate n a0 M = some M')
    (kr : ∀ (pc : Nat) (ls : Array Slot) (H : Heap) (locs : List Loc), decode cX8_candidate pc = .ok (.return_, 1) → wH G A s.heap s (LL adr) (wf G adr M') H locs → W p l e { frames := 3, cells := 0, slots := 0, locals := 74 } s m args below meth c H locs 0 0 Q (F0 m pc ls []))
    {ls : Array Slot} {H : Heap} {locs : List Loc} (hl : lv_has ls 8 [(0, .ref (adr 36)), (1, .int a0)]) (hw : wH G A s.heap s (LL adr) (wf G adr M) H locs) : W p l e { frames := 3, cells := 0, slots := 0, locals := 74 } s m args below meth c H locs 0 0 Q (F0 m 0 ls []) := by
  obtain ⟨hx, hb, -, -, hown, hts, -⟩ := id cx
  have hown : s.vm.findClass RX8 = some m.cls := hown
  unfold f_X8_candidate at h
  refine lv_aload_n hx hb dX8_candidate_0 rfl (lv_at hl 0 rfl) ?_
  refine m_get (k := 36) (C := RX8) (T := TX8) (N := 18) (ref := "LiftFactorsModel") (v := .ref (adr 41)) hx hb hi hts inX8_u hown hw (by decide) rfl 7 (by decide) q_0 rfl rfl dX8_candidate_1 ?_
  refine lv_sipush (v := (456 : Int32)) hx hb dX8_candidate_4 (by decide) ?_
  refine lv_aload_n hx hb dX8_candidate_7 rfl (lv_at hl 0 rfl) ?_
  refine m_get (k := 36) (C := RX8) (T := TX8) (N := 18) (ref := "LiftFactorsModel") (v := .ref (adr 42)) hx hb hi hts inX8_u hown hw (by decide) rfl 8 (by decide) q_1 rfl rfl dX8_candidate_8 ?_
  refine lv_bipush (v := (19 : Int32)) hx hb dX8_candidate_11 (by decide) ?_
  replace h := bnd h
  obtain ⟨v1, e1, h⟩ := h
  refine m_iald hx hb hi hw e1 dX8_candidate_13 ?_
  refine lv_iadd hx hb dX8_candidate_14 ?_
  replace h := bnd h
  obtain ⟨v2, e2, h⟩ := h
  refine m_lald hx hb hi hw e2 dX8_candidate_15 ?_
  refine lv_lstore_n (lv' := [(2, .long v2), (0, .ref (adr 36)), (1, .int a0)]) hx hb dX8_candidate_16 rfl hl (by decide) rfl (fun ls hl => ?_)
  refine lv_aload_n hx hb dX8_candidate_17 rfl (lv_at hl 1 rfl) ?_
  refine lv_bipush (v := (7 : Int32)) hx hb dX8_candidate_18 (by decide) ?_
  refine lv_lload_n hx hb dX8_candidate_20 rfl (lv_at hl 0 rfl) ?_
  replace h := bnd h
  obtain ⟨v3, e3, h⟩ := h
  refine m_callVv (k := 36) (As := [.int (7 : Int32), .long v2]) (rest := []) cx.fix hi hw (cc_X8_constant (l := l) (G := G) (sz := H.size) hi e3) (by decide) rfl rfl (w_cV 2 hts q_47 q_48 q_49 q_50 q_51 rfl rfl (by decide) (by decide)) hl.1 rfl (lv_room (Nat.le_of_ble_eq_true rfl)) dX8_candidate_21 (fun H locs hw => ?_)
  refine lv_iconst (v := (0 : Int32)) hx hb dX8_candidate_24 (by decide) ?_
  refine lv_istore (lv' := [(4, .int (0 : Int32)), (2, .long v2), (0, .ref (adr 36)), (1, .int a0)]) hx hb dX8_candidate_25 hl (by decide) rfl (fun ls hl => ?_)
  replace h := bnd h
  obtain ⟨M36, j35, h⟩ := h
  refine lp_W (Wst := fun (st : Mem × Int32) => ∀ (ls : Array Slot) (H : Heap) (locs : List Loc), lv_has ls 8 [(0, .ref (adr 36)), (1, .int a0), (4, .int st.2)] → wH G A s.heap s (LL adr) (wf G adr st.1) H locs → W p l e { frames := 3, cells := 0, slots := 0, locals := 74 } s m args below meth c H locs 0 0 Q (F0 m 27 ls [])) (fin := fun (r : Mem) => ∀ (ls : Array Slot) (H : Heap) (locs : List Loc), lv_has ls 8 [(0, .ref (adr 36))] → wH G A s.heap s (LL adr) (wf G adr r) H locs → W p l e { frames := 3, cells := 0, slots := 0, locals := 74 } s m args below meth c H locs 0 0 Q (F0 m 226 ls [])) ?_ n _ _ j35 ?_ _ _ _ (lv_sub hl [2, 3, 0] rfl) hw
  · clear h j35 hw hl
    intro ⟨M4, v5⟩ x h k1 k2 ls H locs hl hw
    (try dsimp only at k1 k2 hl hw ⊢)
    unfold l_X8_candidate_27 at h
    (try dsimp only at h)
    refine lv_iload hx hb dX8_candidate_27 (lv_at hl 2 rfl) ?_
    refine lv_aload_n hx hb dX8_candidate_29 rfl (lv_at hl 0 rfl) ?_
    refine m_get (k := 36) (C := RX8) (T := TX8) (N := 18) (ref := "LiftFactorsModel") (v := .int (M4.2 36 10)) hx hb hi hts inX8_u hown hw (by decide) rfl 10 (by decide) q_95 rfl rfl dX8_candidate_30 ?_
    refine lv_icmp_ge (tgt := 226) hx hb dX8_candidate_33 (by decide) (fun hc => ?_) (fun hc => ?_)
    · replace h := ite_t hc h
      cases h
      exact k1 _ rfl _ _ _ (lv_sub hl [0] rfl) hw
    · replace h := ite_f hc h
      refine lv_iload_n hx hb dX8_candidate_36 rfl (lv_at hl 1 rfl) ?_
      refine lv_iload hx hb dX8_candidate_37 (lv_at hl 2 rfl) ?_
      refine lv_ishr hx hb dX8_candidate_39 ?_
      refine lv_iconst (v := (1 : Int32)) hx hb dX8_candidate_40 (by decide) ?_
      refine lv_iand hx hb dX8_candidate_41 ?_
      refine lv_iconst (v := (1 : Int32)) hx hb dX8_candidate_42 (by decide) ?_
      replace h := bnd h
      obtain ⟨M33, j34, h⟩ := h
      have kj : ∀ (ls : Array Slot) (H : Heap) (locs : List Loc), lv_has ls 8 [(0, .ref (adr 36)), (1, .int a0), (4, .int v5)] → wH G A s.heap s (LL adr) (wf G adr M33) H locs → W p l e { frames := 3, cells := 0, slots := 0, locals := 74 } s m args below meth c H locs 0 0 Q (F0 m 220 ls []) := by
        intro ls H locs hl hw
        refine lv_iinc (v := v5 + 1) (lv' := [(4, .int (v5 + 1)), (0, .ref (adr 36)), (1, .int a0)]) hx hb dX8_candidate_220 hl (k := 2) rfl (inc_p _ (by decide)) (by decide) rfl (fun ls hl => ?_)
        refine lv_goto (tgt := 27) hx hb dX8_candidate_223 (by decide) ?_
        cases h
        exact k2 _ rfl _ _ _ (lv_sub hl [1, 2, 0] rfl) hw
      clear h
      replace h := j34
      clear j34
      refine lv_icmp_ne (tgt := 220) hx hb dX8_candidate_43 (by decide) (fun hc => ?_) (fun hc => ?_)
      · replace h := ite_f hc h
        cases h
        exact kj _ _ _ (lv_sub hl [0, 1, 2] rfl) hw
      · replace h := ite_t hc h
        refine lv_aload_n hx hb dX8_candidate_46 rfl (lv_at hl 0 rfl) ?_
        refine m_get (k := 36) (C := RX8) (T := TX8) (N := 18) (ref := "LiftFactorsModel") (v := .ref (adr 42)) hx hb hi hts inX8_u hown hw (by decide) rfl 8 (by decide) q_1 rfl rfl dX8_candidate_47 ?_
        refine lv_bipush (v := (7 : Int32)) hx hb dX8_candidate_50 (by decide) ?_
        replace h := bnd h
        obtain ⟨v6, e6, h⟩ := h
        refine m_iald hx hb hi hw e6 dX8_candidate_52 ?_
        refine lv_aload_n hx hb dX8_candidate_53 rfl (lv_at hl 0 rfl) ?_
        refine m_get (k := 36) (C := RX8) (T := TX8) (N := 18) (ref := "LiftFactorsModel") (v := .ref (adr 42)) hx hb hi hts inX8_u hown hw (by decide) rfl 8 (by decide) q_1 rfl rfl dX8_candidate_54 ?_
        refine lv_bipush (v := (24 : Int32)) hx hb dX8_candidate_57 (by decide) ?_
        refine lv_iload hx hb dX8_candidate_59 (lv_at hl 2 rfl) ?_
        refine lv_iadd hx hb dX8_candidate_61 ?_
        replace h := bnd h
        obtain ⟨v7, e7, h⟩ := h
        refine m_iald hx hb hi hw e7 dX8_candidate_62 ?_
        refine lv_iadd hx hb dX8_candidate_63 ?_
        refine lv_istore (lv' := [(5, .int (v6 + v7)), (0, .ref (adr 36)), (1, .int a0), (4, .int v5)]) hx hb dX8_candidate_64 hl (by decide) rfl (fun ls hl => ?_)
        refine lv_iconst (v := (0 : Int32)) hx hb dX8_candidate_66 (by decide) ?_
        refine lv_istore (lv' := [(6, .int (0 : Int32)), (5, .int (v6 + v7)), (0, .ref (adr 36)), (1, .int a0), (4, .int v5)]) hx hb dX8_candidate_67 hl (by decide) rfl (fun ls hl => ?_)
        replace h := bnd h
        obtain ⟨M13, j12, h⟩ := h
        refine lp_W (Wst := fun (st : Mem × Int32) => ∀ (ls : Array Slot) (H : Heap) (locs : List Loc), lv_has ls 8 [(0, .ref (adr 36)), (1, .int a0), (4, .int v5), (5, .int (v6 + v7)), (6, .int st.2)] → wH G A s.heap s (LL adr) (wf G adr st.1) H locs → W p l e { frames := 3, cells := 0, slots := 0, locals := 74 } s m args below meth c H locs 0 0 Q (F0 m 69 ls [])) (fin := fun (r : Mem) => ∀ (ls : Array Slot) (H : Heap) (locs : List Loc), lv_has ls 8 [(0, .ref (adr 36)), (1, .int a0), (4, .int v5), (5, .int (v6 + v7))] → wH G A s.heap s (LL adr) (wf G adr r) H locs → W p l e { frames := 3, cells := 0, slots := 0, locals := 74 } s m args below meth c H locs 0 0 Q (F0 m 94 ls [])) ?_ n _ _ j12 ?_ _ _ _ (lv_sub hl [2, 3, 4, 1, 0] rfl) hw
        · clear h j12 hw hl
          intro ⟨M8, v9⟩ x h k1 k2 ls H locs hl hw
          (try dsimp only at k1 k2 hl hw ⊢)
          unfold l_X8_candidate_69 at h
          (try dsimp only at h)
          refine lv_iload hx hb dX8_candidate_69 (lv_at hl 4 rfl) ?_
          refine lv_iload hx hb dX8_candidate_71 (lv_at hl 3 rfl) ?_
          refine lv_icmp_gt (tgt := 94) hx hb dX8_candidate_73 (by decide) (fun hc => ?_) (fun hc => ?_)
          · replace h := ite_t hc h
            cases h
            exact k1 _ rfl _ _ _ (lv_sub hl [0, 1, 2, 3] rfl) hw
          · replace h := ite_f hc h
            refine lv_aload_n hx hb dX8_candidate_76 rfl (lv_at hl 0 rfl) ?_
            refine m_get (k := 36) (C := RX8) (T := TX8) (N := 18) (ref := "LiftFactorsModel") (v := .ref (adr 41)) hx hb hi hts inX8_u hown hw (by decide) rfl 7 (by decide) q_0 rfl rfl dX8_candidate_77 ?_
            refine lv_sipush (v := (264 : Int32)) hx hb dX8_candidate_80 (by decide) ?_
            refine lv_iload hx hb dX8_candidate_83 (lv_at hl 4 rfl) ?_
            refine lv_iadd hx hb dX8_candidate_85 ?_
            refine lv_lconst (v := (0 : Int64)) hx hb dX8_candidate_86 (by decide) ?_
            replace h := bnd h
            obtain ⟨v11, e11, h⟩ := h
            refine m_last hx hb hi hw e11 dX8_candidate_87 (fun H locs hw => ?_)
            refine lv_iinc (v := v9 + 1) (lv' := [(6, .int (v9 + 1)), (0, .ref (adr 36)), (1, .int a0), (4, .int v5), (5, .int c10)]) hx hb dX8_candidate_88 hl (k := 4) rfl (inc_p _ (by decide)) (by decide) rfl (fun ls hl => ?_)
            refine lv_goto (tgt := 69) hx hb dX8_candidate_91 (by decide) ?_
            cases h
            exact k2 _ rfl _ _ _ (lv_sub hl [1, 2, 3, 4, 0] rfl) hw
        · clear hw hl
          intro ls H locs hl hw
          (try dsimp only at hl hw ⊢)
          refine lv_iconst (v := (0 : Int32)) hx hb dX8_candidate_94 (by decide) ?_
          refine lv_istore (lv' := [(6, .int (0 : Int32)), (0, .ref (adr 36)), (1, .int a0), (4, .int v5), (5, .int (v6 + v7))]) hx hb dX8_candidate_95 hl (by decide) rfl (fun ls hl => ?_)
          replace h := bnd h
          obtain ⟨M30, j29, h⟩ := h
          refine lp_W (Wst := fun (st : Mem × Int32) => ∀ (ls : Array Slot) (H : Heap) (locs : List Loc), lv_has ls 8 [(0, .ref (adr 36)), (1, .int a0), (4, .int v5), (5, .int (v6 + v7)), (6, .int st.2)] → wH G A s.heap s (LL adr) (wf G adr st.1) H locs → W p l e { frames := 3, cells := 0, slots := 0, locals := 74 } s m args below meth c H locs 0 0 Q (F0 m 97 ls [])) (fin := fun (r : Mem) => ∀ (ls : Array Slot) (H : Heap) (locs : List Loc), lv_has ls 8 [(0, .ref (adr 36)), (1, .int a0), (4, .int v5), (5, .int (v6 + v7))] → wH G A s.heap s (LL adr) (wf G adr r) H locs → W p l e { frames := 3, cells := 0, slots := 0, locals := 74 } s m args below meth c H locs 0 0 Q (F0 m 204 ls [])) ?_ n _ _ j29 ?_ _ _ _ (lv_sub hl [1, 2, 3, 4, 0] rfl) hw
          · clear h j29 hw hl
            intro ⟨M14, v15⟩ x h k1 k2 ls H locs hl hw
            (try dsimp only at k1 k2 hl hw ⊢)
            unfold l_X8_candidate_97 at h
            (try dsimp only at h)
            refine lv_iload hx hb dX8_candidate_97 (lv_at hl 4 rfl) ?_
            refine lv_aload_n hx hb dX8_candidate_99 rfl (lv_at hl 0 rfl) ?_
            refine m_get (k := 36) (C := RX8) (T := TX8) (N := 18) (ref := "LiftFactorsModel") (v := .ref (adr 42)) hx hb hi hts inX8_u hown hw (by decide) rfl 8 (by decide) q_1 rfl rfl dX8_candidate_100 ?_
            refine lv_bipush (v := (7 : Int32)) hx hb dX8_candidate_103 (by decide) ?_
            replace h := bnd h
            obtain ⟨v17, e17, h⟩ := h
            refine m_iald hx hb hi hw e17 dX8_candidate_105 ?_
            refine lv_icmp_gt (tgt := 204) hx hb dX8_candidate_106 (by decide) (fun hc => ?_) (fun hc => ?_)
            · replace h := ite_t hc h
              cases h
              exact k1 _ rfl _ _ _ (lv_sub hl [0, 1, 2, 3] rfl) hw
            · replace h := ite_f hc h
              refine lv_iconst (v := (0 : Int32)) hx hb dX8_candidate_109 (by decide) ?_
              refine lv_istore (lv' := [(7, .int (0 : Int32)), (0, .ref (adr 36)), (1, .int a0), (4, .int v5), (5, .int c16), (6, .int v15)]) hx hb dX8_candidate_110 hl (by decide) rfl (fun ls hl => ?_)
              replace h := bnd h
              obtain ⟨M28, j27, h⟩ := h
              refine lp_W (Wst := fun (st : Mem × Int32) => ∀ (ls : Array Slot) (H : Heap) (locs : List Loc), lv_has ls 8 [(0, .ref (adr 36)), (1, .int a0), (4, .int v5), (5, .int c16), (6, .int v15), (7, .int st.2)] → wH G A s.heap s (LL adr) (wf G adr st.1) H locs → W p l e { frames := 3, cells := 0, slots := 0, locals := 74 } s m args below meth c H locs 0 0 Q (F0 m 112 ls [])) (fin := fun (r : Mem) => ∀ (ls : Array Slot) (H : Heap) (locs : List Loc), lv_has ls 8 [(0, .ref (adr 36)), (1, .int a0), (4, .int v5), (5, .int c16), (6, .int v15)] → wH G A s.heap s (LL adr) (wf G adr r) H locs → W p l e { frames := 3, cells := 0, slots := 0, locals := 74 } s m args below meth c H locs 0 0 Q (F0 m 198 ls [])) ?_ n _ _ j27 ?_ _ _ _ (lv_sub hl [1, 2, 3, 4, 5, 0] rfl) hw
              · clear h j27 hw hl
                intro ⟨M18, v19⟩ x h k1 k2 ls H locs hl hw
                (try dsimp only at k1 k2 hl hw ⊢)
                unfold l_X8_candidate_112 at h
                (try dsimp only at h)
                refine lv_iload hx hb dX8_candidate_112 (lv_at hl 5 rfl) ?_
                refine lv_aload_n hx hb dX8_candidate_114 rfl (lv_at hl 0 rfl) ?_
                refine m_get (k := 36) (C := RX8) (T := TX8) (N := 18) (ref := "LiftFactorsModel") (v := .ref (adr 42)) hx hb hi hts inX8_u hown hw (by decide) rfl 8 (by decide) q_1 rfl rfl dX8_candidate_115 ?_
                refine lv_bipush (v := (24 : Int32)) hx hb dX8_candidate_118 (by decide) ?_
                refine lv_iload hx hb dX8_candidate_120 (lv_at hl 2 rfl) ?_
                refine lv_iadd hx hb dX8_candidate_122 ?_
                replace h := bnd h
                obtain ⟨v20, e20, h⟩ := h
                refine m_iald hx hb hi hw e20 dX8_candidate_123 ?_
                refine lv_icmp_gt (tgt := 198) hx hb dX8_candidate_124 (by decide) (fun hc => ?_) (fun hc => ?_)
                · replace h := ite_t hc h
                  cases h
                  exact k1 _ rfl _ _ _ (lv_sub hl [0, 1, 2, 3, 4] rfl) hw
                · replace h := ite_f hc h
                  refine lv_aload_n hx hb dX8_candidate_127 rfl (lv_at hl 0 rfl) ?_
                  refine m_get (k := 36) (C := RX8) (T := TX8) (N := 18) (ref := "LiftFactorsModel") (v := .ref (adr 41)) hx hb hi hts inX8_u hown hw (by decide) rfl 7 (by decide) q_0 rfl rfl dX8_candidate_128 ?_
                  refine lv_sipush (v := (264 : Int32)) hx hb dX8_candidate_131 (by decide) ?_
                  refine lv_iload hx hb dX8_candidate_134 (lv_at hl 4 rfl) ?_
                  refine lv_iadd hx hb dX8_candidate_136 ?_
                  refine lv_iload hx hb dX8_candidate_137 (lv_at hl 5 rfl) ?_
                  refine lv_iadd hx hb dX8_candidate_139 ?_
                  refine lv_aload_n hx hb dX8_candidate_140 rfl (lv_at hl 0 rfl) ?_
                  refine m_get (k := 36) (C := RX8) (T := TX8) (N := 18) (ref := "LiftFactorsModel") (v := .ref (adr 41)) hx hb hi hts inX8_u hown hw (by decide) rfl 7 (by decide) q_0 rfl rfl dX8_candidate_141 ?_
                  refine lv_sipush (v := (264 : Int32)) hx hb dX8_candidate_144 (by decide) ?_
                  refine lv_iload hx hb dX8_candidate_147 (lv_at hl 4 rfl) ?_
                  refine lv_iadd hx hb dX8_candidate_149 ?_
                  refine lv_iload hx hb dX8_candidate_150 (lv_at hl 5 rfl) ?_
                  refine lv_iadd hx hb dX8_candidate_152 ?_
                  replace h := bnd h
                  obtain ⟨v21, e21, h⟩ := h
                  refine m_lald hx hb hi hw e21 dX8_candidate_153 ?_
                  refine lv_aload_n hx hb dX8_candidate_154 rfl (lv_at hl 0 rfl) ?_
                  refine lv_aload_n hx hb dX8_candidate_155 rfl (lv_at hl 0 rfl) ?_
                  refine m_get (k := 36) (C := RX8) (T := TX8) (N := 18) (ref := "LiftFactorsModel") (v := .ref (adr 41)) hx hb hi hts inX8_u hown hw (by decide) rfl 7 (by decide) q_0 rfl rfl dX8_candidate_156 ?_
                  refine lv_sipush (v := (168 : Int32)) hx hb dX8_candidate_159 (by decide) ?_
                  refine lv_iload hx hb dX8_candidate_162 (lv_at hl 4 rfl) ?_
                  refine lv_iadd hx hb dX8_candidate_164 ?_
                  replace h := bnd h
                  obtain ⟨v22, e22, h⟩ := h
                  refine m_lald hx hb hi hw e22 dX8_candidate_165 ?_
                  refine lv_aload_n hx hb dX8_candidate_166 rfl (lv_at hl 0 rfl) ?_
                  refine m_get (k := 36) (C := RX8) (T := TX8) (N := 18) (ref := "LiftFactorsModel") (v := .ref (adr 41)) hx hb hi hts inX8_u hown hw (by decide) rfl 7 (by decide) q_0 rfl rfl dX8_candidate_167 ?_
                  refine lv_bipush (v := (24 : Int32)) hx hb dX8_candidate_170 (by decide) ?_
                  refine lv_bipush (v := (24 : Int32)) hx hb dX8_candidate_172 (by decide) ?_
                  refine lv_iload hx hb dX8_candidate_174 (lv_at hl 2 rfl) ?_
                  refine lv_iadd hx hb dX8_candidate_176 ?_
                  refine lv_imul hx hb dX8_candidate_177 ?_
                  refine lv_iload hx hb dX8_candidate_178 (lv_at hl 5 rfl) ?_
                  refine lv_iadd hx hb dX8_candidate_180 ?_
                  replace h := bnd h
                  obtain ⟨v23, e23, h⟩ := h
                  refine m_lald hx hb hi hw e23 dX8_candidate_181 ?_
                  replace h := bnd h
                  obtain ⟨v24, e24, h⟩ := h
                  refine m_callVl (k := 36) (As := [.long v22, .long v23]) (rest := [.long v21, .int (((264 : Int32) + v15) + v19), .ref (adr 41)]) cx.fix hi hw (cc_X8_product (l := l) (G := G) (sz := H.size) hi e24) (by decide) rfl rfl (w_cV 2 hts q_31 q_32 q_33 q_34 q_35 rfl rfl (by decide) (by decide)) hl.1 rfl (lv_room (Nat.le_of_ble_eq_true rfl)) dX8_candidate_182 (fun H locs hw => ?_)
                  refine lv_ladd hx hb dX8_candidate_185 ?_
                  refine lv_aload_n hx hb dX8_candidate_186 rfl (lv_at hl 0 rfl) ?_
                  refine m_get (k := 36) (C := RX8) (T := TX8) (N := 18) (ref := "LiftFactorsModel") (v := .long (M18.1 36 9)) hx hb hi hts inX8_u hown hw (by decide) rfl 9 (by decide) q_29 rfl rfl dX8_candidate_187 ?_
                  replace h := bnd h
                  obtain ⟨v25, e25, h⟩ := h
                  obtain ⟨ne25, rfl⟩ := rmJ_ok e25
                  refine lv_lrem hx hb dX8_candidate_190 ne25 ?_
                  obtain ⟨v25, e25⟩ : ∃ z9, z9 = (v21 + v24) - (v21 + v24) / (M18.1 36 9) * (M18.1 36 9) := ⟨_, rfl⟩
                  rw [← e25] at h ⊢
                  replace h := bnd h
                  obtain ⟨v26, e26, h⟩ := h
                  refine m_last hx hb hi hw e26 dX8_candidate_191 (fun H locs hw => ?_)
                  refine lv_iinc (v := v19 + 1) (lv' := [(7, .int (v19 + 1)), (0, .ref (adr 36)), (1, .int a0), (4, .int v5), (5, .int c16), (6, .int v15)]) hx hb dX8_candidate_192 hl (k := 5) rfl (inc_p _ (by decide)) (by decide) rfl (fun ls hl => ?_)
                  refine lv_goto (tgt := 112) hx hb dX8_candidate_195 (by decide) ?_
                  cases h
                  exact k2 _ rfl _ _ _ (lv_sub hl [1, 2, 3, 4, 5, 0] rfl) hw
              · clear hw hl
                intro ls H locs hl hw
                (try dsimp only at hl hw ⊢)
                refine lv_iinc (v := v15 + 1) (lv' := [(6, .int (v15 + 1)), (0, .ref (adr 36)), (1, .int a0), (4, .int v5), (5, .int c16)]) hx hb dX8_candidate_198 hl (k := 4) rfl (inc_p _ (by decide)) (by decide) rfl (fun ls hl => ?_)
                refine lv_goto (tgt := 97) hx hb dX8_candidate_201 (by decide) ?_
                cases h
                exact k2 _ rfl _ _ _ (lv_sub hl [1, 2, 3, 4, 0] rfl) hw
          · clear hw hl
            intro ls H locs hl hw
            (try dsimp only at hl hw ⊢)
            refine lv_aload_n hx hb dX8_candidate_204 rfl (lv_at hl 0 rfl) ?_
            refine lv_bipush (v := (11 : Int32)) hx hb dX8_candidate_205 (by decide) ?_
            refine lv_iload hx hb dX8_candidate_207 (lv_at hl 3 rfl) ?_
            replace h := bnd h
            obtain ⟨v31, e31, h⟩ := h
            refine m_callVv (k := 36) (As := [.int (11 : Int32), .int (v6 + v7)]) (rest := []) cx.fix hi hw (cc_X8_trim (l := l) (G := G) (sz := H.size) hi e31) (by decide) rfl rfl (w_cV 2 hts q_11 q_12 q_13 q_14 q_15 rfl rfl (by decide) (by decide)) hl.1 rfl (lv_room (Nat.le_of_ble_eq_true rfl)) dX8_candidate_209 (fun H locs hw => ?_)
            refine lv_aload_n hx hb dX8_candidate_212 rfl (lv_at hl 0 rfl) ?_
            refine lv_bipush (v := (11 : Int32)) hx hb dX8_candidate_213 (by decide) ?_
            refine lv_bipush (v := (7 : Int32)) hx hb dX8_candidate_215 (by decide) ?_
            replace h := bnd h
            obtain ⟨v32, e32, h⟩ := h
            refine m_callVv (k := 36) (As := [.int (11 : Int32), .int (7 : Int32)]) (rest := []) cx.fix hi hw (cc_X8_copy (l := l) (G := G) (sz := H.size) hi e32) (by decide) rfl rfl (w_cV 2 hts q_24 q_25 q_26 q_27 q_28 rfl rfl (by decide) (by decide)) hl.1 rfl (lv_room (Nat.le_of_ble_eq_true rfl)) dX8_candidate_217 (fun H locs hw => ?_)
            cases h
            exact kj _ _ _ (lv_sub hl [0, 1, 2] rfl) hw
  · clear hw hl
    intro ls H locs hl hw
    (try dsimp only at hl hw ⊢)
    refine lv_aload_n hx hb dX8_candidate_226 rfl (lv_at hl 0 rfl) ?_
    refine lv_bipush (v := (7 : Int32)) hx hb dX8_candidate_227 (by decide) ?_
    replace h := bnd h
    obtain ⟨v37, e37, h⟩ := h
    refine m_callVv (k := 36) (As := [.int (7 : Int32)]) (rest := []) cx.fix hi hw (cc_X8_center (l := l) (G := G) (sz := H.size) hi e37) (by decide) rfl rfl (w_cV 1 hts q_84 q_85 q_86 q_87 q_88 rfl rfl (by decide) (by decide)) hl.1 rfl (lv_room (Nat.le_of_ble_eq_true rfl)) dX8_candidate_229 (fun H locs hw => ?_)
    refine lv_aload_n hx hb dX8_candidate_232 rfl (lv_at hl 0 rfl) ?_
    refine lv_bipush (v := (7 : Int32)) hx hb dX8_candidate_233 (by decide) ?_
    replace h := bnd h
    obtain ⟨⟨v38, M39⟩, e38, h⟩ := h
    refine m_callVl (k := 36) (As := [.int (7 : Int32)]) (rest := []) cx.fix hi hw (cc_X8_primitive (l := l) (G := G) (sz := H.size) hi e38) (by decide) rfl rfl (w_cV 1 hts q_64 q_65 q_66 q_67 q_68 rfl rfl (by decide) (by decide)) hl.1 rfl (lv_room (Nat.le_of_ble_eq_true rfl)) dX8_candidate_235 (fun H locs hw => ?_)
    refine lv_pop2_2 hx hb dX8_candidate_238 rfl ?_
    cases h
    exact kr _ _ _ _ dX8_candidate_239 hw
theorem cc_X8_candidate {l : Launch} {G : gG} {adr : Nat → Nat} {sz : Nat} (hi : adi adr) {n : Nat} {a0 : Int32} {M M' : Mem} (h : f_X8_candidate n a0 M = some M') : mV l yX8_candidate cX8_candidate 8 none { frames := 3, cells := 0, slots := 0, locals := 74 } G adr [.ref (adr 36), .int a0] M sz M' := by
  refine wEnter (by decide) (Nat.le_of_ble_eq_true rfl) ?_
  intro p e s m below meth c ls cx hinit hl hsz hw
  exact b_X8_candidate cx hi h (fun pc ls H locs hd hw => w_vret (post := fun (u : Mem) => u = M') (lf := fun u => (LL adr, wf G adr u)) cx.1 cx.2.1 cx.2.2.1 cx.2.2.2.2.2.2 M' hw rfl hd) hl hw
def l_X8_bits_4 : Int32 × Int32 → Option ((Int32) ⊕ (Int32 × Int32)) := fun (v1, v2) =>
  if v2 = 0 then
    some (.inl v1)
  else
    some (.inr (v1 + 1, v2 &&& (v2 - (1 : Int32))))
def f_X8_bits (n : Nat) (a0 : Int32) : Option Int32 :=
  Option.bind (lpF (l_X8_bits_4) n ((0 : Int32), a0)) fun v4 =>
  some v4
set_option maxRecDepth 100000 in
set_option maxHeartbeats 8000000 in
theorem b_X8_bits {p : Program} {l : Launch} {e : Env} {s : State} {m : MethodId} {args : Array Value} {below : List Frame} {meth : Method} {c : Code} {Q : State → Prop} {G : gG} {A : Nat → Prop} {adr : Nat → Nat} (cx : cX p s m args meth c cX8_bits (some .int) 3 yX8_bits.cls) (hi : adi adr) {n : Nat} {a0 : Int32} {M : Mem} {r : Int32} 
    (h : f_X8_bits n a0 = some r)
    (kr : ∀ (pc : Nat) (ls : Array Slot) (H : Heap) (locs : List Loc), decode cX8_bits pc = .ok (.ireturn, 1) → wH G A s.heap s (LL adr) (wf G adr M) H locs → W p l e { frames := 0, cells := 0, slots := 0, locals := 0 } s m args below meth c H locs 0 0 Q (F0 m pc ls [.int r]))
    {ls : Array Slot} {H : Heap} {locs : List Loc} (hl : lv_has ls 3 [(0, .int a0)]) (hw : wH G A s.heap s (LL adr) (wf G adr M) H locs) : W p l e { frames := 0, cells := 0, slots := 0, locals := 0 } s m args below meth c H locs 0 0 Q (F0 m 0 ls []) := by
  obtain ⟨hx, hb, -, -, hown, hts, -⟩ := id cx
  have hown : s.vm.findClass RX8 = some m.cls := hown
  unfold f_X8_bits at h
  refine lv_iconst (v := (0 : Int32)) hx hb dX8_bits_0 (by decide) ?_
  refine lv_istore_n (lv' := [(1, .int (0 : Int32)), (0, .int a0)]) hx hb dX8_bits_1 rfl hl (by decide) rfl (fun ls hl => ?_)
  refine lv_iload_n hx hb dX8_bits_2 rfl (lv_at hl 1 rfl) ?_
  refine lv_istore_n (lv' := [(2, .int a0), (1, .int (0 : Int32)), (0, .int a0)]) hx hb dX8_bits_3 rfl hl (by decide) rfl (fun ls hl => ?_)
  replace h := bnd h
  obtain ⟨v4, j3, h⟩ := h
  refine lp_W (Wst := fun (st : Int32 × Int32) => ∀ (ls : Array Slot) (H : Heap) (locs : List Loc), lv_has ls 3 [(1, .int st.1), (2, .int st.2)] → wH G A s.heap s (LL adr) (wf G adr M) H locs → W p l e { frames := 0, cells := 0, slots := 0, locals := 0 } s m args below meth c H locs 0 0 Q (F0 m 4 ls [])) (fin := fun (r : Int32) => ∀ (ls : Array Slot) (H : Heap) (locs : List Loc), lv_has ls 3 [(1, .int r)] → wH G A s.heap s (LL adr) (wf G adr M) H locs → W p l e { frames := 0, cells := 0, slots := 0, locals := 0 } s m args below meth c H locs 0 0 Q (F0 m 20 ls [])) ?_ n _ _ j3 ?_ _ _ _ (lv_sub hl [1, 0] rfl) hw
  · clear h j3 hw hl
    intro ⟨v1, v2⟩ x h k1 k2 ls H locs hl hw
    (try dsimp only at k1 k2 hl hw ⊢)
    unfold l_X8_bits_4 at h
    (try dsimp only at h)
    refine lv_iload_n hx hb dX8_bits_4 rfl (lv_at hl 1 rfl) ?_
    refine lv_if_eq (tgt := 20) hx hb dX8_bits_5 (by decide) (fun hc => ?_) (fun hc => ?_)
    · replace h := ite_t hc h
      cases h
      exact k1 _ rfl _ _ _ (lv_sub hl [0] rfl) hw
    · replace h := ite_f hc h
      refine lv_iinc (v := v1 + 1) (lv' := [(1, .int (v1 + 1)), (2, .int v2)]) hx hb dX8_bits_8 hl (k := 0) rfl (inc_p _ (by decide)) (by decide) rfl (fun ls hl => ?_)
      refine lv_iload_n hx hb dX8_bits_11 rfl (lv_at hl 1 rfl) ?_
      refine lv_iload_n hx hb dX8_bits_12 rfl (lv_at hl 1 rfl) ?_
      refine lv_iconst (v := (1 : Int32)) hx hb dX8_bits_13 (by decide) ?_
      refine lv_isub hx hb dX8_bits_14 ?_
      refine lv_iand hx hb dX8_bits_15 ?_
      refine lv_istore_n (lv' := [(2, .int (v2 &&& (v2 - (1 : Int32)))), (1, .int (v1 + 1))]) hx hb dX8_bits_16 rfl hl (by decide) rfl (fun ls hl => ?_)
      refine lv_goto (tgt := 4) hx hb dX8_bits_17 (by decide) ?_
      cases h
      exact k2 _ rfl _ _ _ (lv_sub hl [1, 0] rfl) hw
  · clear hw hl
    intro ls H locs hl hw
    (try dsimp only at hl hw ⊢)
    refine lv_iload_n hx hb dX8_bits_20 rfl (lv_at hl 0 rfl) ?_
    cases h
    exact kr _ _ _ _ dX8_bits_21 hw
theorem cc_X8_bits {l : Launch} {G : gG} {adr : Nat → Nat} {sz : Nat} (hi : adi adr) {n : Nat} {a0 : Int32} {M : Mem} {r : Int32} (h : f_X8_bits n a0 = some r) : mI l yX8_bits cX8_bits 3 (some .int) { frames := 0, cells := 0, slots := 0, locals := 0 } G adr [.int a0] M sz r M := by
  refine wEnter (by decide) (Nat.le_of_ble_eq_true rfl) ?_
  intro p e s m below meth c ls cx hinit hl hsz hw
  exact b_X8_bits cx hi h (fun pc ls H locs hd hw => w_iret (post := fun (r9 : Int32) (u : Mem) => r9 = r ∧ u = M) (lf := fun u => (LL adr, wf G adr u)) cx.1 cx.2.1 cx.2.2.1 cx.2.2.2.2.2.2 M hw ⟨rfl, rfl⟩ hd) hl hw
theorem q_131 : Cond.fieldLink RX8 154 "LiftFactorsModel" "found" "I" ∈ uU := uU_in (by decide +kernel) (by decide +kernel)
def f_X8_keep (n : Nat) (a0 : Int32) (M : Mem) : Option Mem :=
  Option.bind (f_X8_copy n a0 ((40 : Int32) + (M.2 36 11)) M) fun v1 =>
  Option.bind (ptI v1 36 11 ((v1.2 36 11) + (1 : Int32))) fun v2 =>
  some v2
set_option maxRecDepth 100000 in
set_option maxHeartbeats 8000000 in
theorem b_X8_keep {p : Program} {l : Launch} {e : Env} {s : State} {m : MethodId} {args : Array Value} {below : List Frame} {meth : Method} {c : Code} {Q : State → Prop} {G : gG} {A : Nat → Prop} {adr : Nat → Nat} (cx : cX p s m args meth c cX8_keep none 2 yX8_keep.cls) (hi : adi adr) {n : Nat} {a0 : Int32} {M M' : Mem} 
    (h : f_X8_keep n a0 M = some M')
    (kr : ∀ (pc : Nat) (ls : Array Slot) (H : Heap) (locs : List Loc), decode cX8_keep pc = .ok (.return_, 1) → wH G A s.heap s (LL adr) (wf G adr M') H locs → W p l e { frames := 1, cells := 0, slots := 0, locals := 23 } s m args below meth c H locs 0 0 Q (F0 m pc ls []))
    {ls : Array Slot} {H : Heap} {locs : List Loc} (hl : lv_has ls 2 [(0, .ref (adr 36)), (1, .int a0)]) (hw : wH G A s.heap s (LL adr) (wf G adr M) H locs) : W p l e { frames := 1, cells := 0, slots := 0, locals := 23 } s m args below meth c H locs 0 0 Q (F0 m 0 ls []) := by
  obtain ⟨hx, hb, -, -, hown, hts, -⟩ := id cx
  have hown : s.vm.findClass RX8 = some m.cls := hown
  unfold f_X8_keep at h
  refine lv_aload_n hx hb dX8_keep_0 rfl (lv_at hl 0 rfl) ?_
  refine lv_iload_n hx hb dX8_keep_1 rfl (lv_at hl 1 rfl) ?_
  refine lv_bipush (v := (40 : Int32)) hx hb dX8_keep_2 (by decide) ?_
  refine lv_aload_n hx hb dX8_keep_4 rfl (lv_at hl 0 rfl) ?_
  refine m_get (k := 36) (C := RX8) (T := TX8) (N := 18) (ref := "LiftFactorsModel") (v := .int (M.2 36 11)) hx hb hi hts inX8_u hown hw (by decide) rfl 11 (by decide) q_131 rfl rfl dX8_keep_5 ?_
  refine lv_iadd hx hb dX8_keep_8 ?_
  replace h := bnd h
  obtain ⟨v1, e1, h⟩ := h
  refine m_callVv (k := 36) (As := [.int a0, .int ((40 : Int32) + (M.2 36 11))]) (rest := []) cx.fix hi hw (cc_X8_copy (l := l) (G := G) (sz := H.size) hi e1) (by decide) rfl rfl (w_cV 2 hts q_24 q_25 q_26 q_27 q_28 rfl rfl (by decide) (by decide)) hl.1 rfl (lv_room (Nat.le_of_ble_eq_true rfl)) dX8_keep_9 (fun H locs hw => ?_)
  refine lv_aload_n hx hb dX8_keep_12 rfl (lv_at hl 0 rfl) ?_
  refine lv_dup hx hb dX8_keep_13 rfl ?_
  refine m_get (k := 36) (C := RX8) (T := TX8) (N := 18) (ref := "LiftFactorsModel") (v := .int (v1.2 36 11)) hx hb hi hts inX8_u hown hw (by decide) rfl 11 (by decide) q_131 rfl rfl dX8_keep_14 ?_
  refine lv_iconst (v := (1 : Int32)) hx hb dX8_keep_17 (by decide) ?_
  refine lv_iadd hx hb dX8_keep_18 ?_
  replace h := bnd h
  obtain ⟨v2, e2, h⟩ := h
  obtain rfl := pt_s e2
  refine m_putI (k := 36) (C := RX8) (T := TX8) (N := 18) (ref := "LiftFactorsModel") hx hb hi hts inX8_u tyX8 tyX8_ok nmX8 hown hw (by decide) rfl 11 (by decide) q_131 rfl rfl (by decide +kernel) rfl dX8_keep_19 (fun H locs hw => ?_)
  obtain ⟨v2, e2⟩ : ∃ z9, z9 = sI v1 36 11 ((v1.2 36 11) + (1 : Int32)) := ⟨_, rfl⟩
  rw [← e2] at h hw
  cases h
  exact kr _ _ _ _ dX8_keep_22 hw
theorem cc_X8_keep {l : Launch} {G : gG} {adr : Nat → Nat} {sz : Nat} (hi : adi adr) {n : Nat} {a0 : Int32} {M M' : Mem} (h : f_X8_keep n a0 M = some M') : mV l yX8_keep cX8_keep 2 none { frames := 1, cells := 0, slots := 0, locals := 23 } G adr [.ref (adr 36), .int a0] M sz M' := by
  refine wEnter (by decide) (Nat.le_of_ble_eq_true rfl) ?_
  intro p e s m below meth c ls cx hinit hl hsz hw
  exact b_X8_keep cx hi h (fun pc ls H locs hd hw => w_vret (post := fun (u : Mem) => u = M') (lf := fun u => (LL adr, wf G adr u)) cx.1 cx.2.1 cx.2.2.1 cx.2.2.2.2.2.2 M' hw rfl hd) hl hw
theorem q_132 : Cond.methodLink RX8 157 yX8_derive ∈ uU := uU_in (by decide +kernel) (by decide +kernel)
theorem q_133 : Cond.instanceMethod yX8_derive ∈ uU := uU_in (by decide +kernel) (by decide +kernel)
theorem q_134 : Cond.selects yX8_derive.cls yX8_derive yX8_derive ∈ uU := uU_in (by decide +kernel) (by decide +kernel)
theorem q_135 : Cond.initialized yX8_derive.cls ∈ uU := uU_in (by decide +kernel) (by decide +kernel)
theorem q_136 : Cond.code yX8_derive cX8_derive 4 none ∈ uU := uU_in (by decide +kernel) (by decide +kernel)
theorem q_137 : Cond.methodLink RX8 160 yX8_factorModulo ∈ uU := uU_in (by decide +kernel) (by decide +kernel)
theorem q_138 : Cond.instanceMethod yX8_factorModulo ∈ uU := uU_in (by decide +kernel) (by decide +kernel)
theorem q_139 : Cond.selects yX8_factorModulo.cls yX8_factorModulo yX8_factorModulo ∈ uU := uU_in (by decide +kernel) (by decide +kernel)
theorem q_140 : Cond.initialized yX8_factorModulo.cls ∈ uU := uU_in (by decide +kernel) (by decide +kernel)
theorem q_141 : Cond.code yX8_factorModulo cX8_factorModulo 3 none ∈ uU := uU_in (by decide +kernel) (by decide +kernel)
theorem q_142 : Cond.methodLink RX8 163 yX8_bits ∈ uU := uU_in (by decide +kernel) (by decide +kernel)
theorem q_143 : Cond.static yX8_bits ∈ uU := uU_in (by decide +kernel) (by decide +kernel)
theorem q_144 : Cond.initialized yX8_bits.cls ∈ uU := uU_in (by decide +kernel) (by decide +kernel)
theorem q_145 : Cond.code yX8_bits cX8_bits 3 (some .int) ∈ uU := uU_in (by decide +kernel) (by decide +kernel)
theorem q_146 : Cond.methodLink RX8 167 yX8_candidate ∈ uU := uU_in (by decide +kernel) (by decide +kernel)
theorem q_147 : Cond.instanceMethod yX8_candidate ∈ uU := uU_in (by decide +kernel) (by decide +kernel)
theorem q_148 : Cond.selects yX8_candidate.cls yX8_candidate yX8_candidate ∈ uU := uU_in (by decide +kernel) (by decide +kernel)
theorem q_149 : Cond.initialized yX8_candidate.cls ∈ uU := uU_in (by decide +kernel) (by decide +kernel)
theorem q_150 : Cond.code yX8_candidate cX8_candidate 8 none ∈ uU := uU_in (by decide +kernel) (by decide +kernel)
theorem q_151 : Cond.methodLink RX8 170 yX8_keep ∈ uU := uU_in (by decide +kernel) (by decide +kernel)
theorem q_152 : Cond.instanceMethod yX8_keep ∈ uU := uU_in (by decide +kernel) (by decide +kernel)
theorem q_153 : Cond.selects yX8_keep.cls yX8_keep yX8_keep ∈ uU := uU_in (by decide +kernel) (by decide +kernel)
theorem q_154 : Cond.initialized yX8_keep.cls ∈ uU := uU_in (by decide +kernel) (by decide +kernel)
theorem q_155 : Cond.code yX8_keep cX8_keep 2 none ∈ uU := uU_in (by decide +kernel) (by decide +kernel)
def l_X8_factorWhole_9 (n : Nat) : Mem × Int32 × Int32 → Option ((Mem) ⊕ (Mem × Int32 × Int32)) := fun (M2, v3, v4) =>
  if v4 = 0 then
    Option.bind (f_X8_takePrime v3 M2) fun v5 =>
    Option.bind (f_X8_copy n (1 : Int32) (5 : Int32) v5) fun v6 =>
    Option.bind (f_X8_reduce n (5 : Int32) v6) fun v7 =>
    Option.bind (f_X8_monic n (5 : Int32) v7) fun v8 =>
    Option.bind (f_X8_copy n (5 : Int32) (12 : Int32) v8) fun v9 =>
    Option.bind (f_X8_copy n (1 : Int32) (2 : Int32) v9) fun v10 =>
    Option.bind (f_X8_derive n (1 : Int32) (2 : Int32) v10) fun v11 =>
    Option.bind (f_X8_reduce n (2 : Int32) v11) fun v12 =>
    Option.bind (f_X8_commonRow n (5 : Int32) (2 : Int32) (11 : Int32) v12) fun v13 =>
    Option.bind (ldI v13 42 (11 : Int32)) fun v14 =>
    Option.bind (
      if v14 = 0 then
        some (1 : Int32)
      else
        some (0 : Int32)) fun v15 =>
    some (.inr (v13, v3 + 1, v15))
  else
    some (.inl M2)
def l_X8_factorWhole_125 (n : Nat) (v23 : Int32) : Mem × Int32 × Int32 → Option ((Mem × Int32) ⊕ (Mem × Int32 × Int32)) := fun (M25, v26, v27) =>
  if ((1 : Int32) <<< ((M25.2 36 10) &&& 31)) ≤ v27 then
    some (.inl (M25, v26))
  else
    Option.bind (
      if (v27 &&& (v26 ^^^ (-1 : Int32))) = 0 then
        Option.bind (f_X8_bits n v27) fun v28 =>
        if v28 = v23 then
          Option.bind (f_X8_bits n v26) fun v29 =>
          if v29 < ((2 : Int32) * v23) then
            some (M25, v26)
          else
            Option.bind (f_X8_candidate n v27 M25) fun v30 =>
            Option.bind (f_X8_divides n (7 : Int32) (19 : Int32) (20000000 : Int64) v30) fun (v31, M32) =>
            if v31 = 0 then
              some (M32, v26)
            else
              Option.bind (f_X8_keep n (7 : Int32) M32) fun v33 =>
              Option.bind (f_X8_copy n (3 : Int32) (19 : Int32) v33) fun v34 =>
              some (v34, v26 &&& (v27 ^^^ (-1 : Int32)))
        else
          some (M25, v26)
      else
        some (M25, v26)) fun (M35, v36) =>
    some (.inr (M35, v36, v27 + 1))
def l_X8_factorWhole_111 (n : Nat) : Mem × Int32 × Int32 → Option ((Mem) ⊕ (Mem × Int32 × Int32)) := fun (M21, v22, v23) =>
  Option.bind (f_X8_bits n v22) fun v24 =>
  if v24 < ((2 : Int32) * v23) then
    some (.inl M21)
  else
    Option.bind (lpF (l_X8_factorWhole_125 n v23) n (M21, v22, (1 : Int32))) fun (M39, v40) =>
    some (.inr (M39, v40, v23 + 1))
def f_X8_factorWhole (n : Nat) (M : Mem) : Option Mem :=
  Option.bind (ptI M 36 11 (0 : Int32)) fun v1 =>
  Option.bind (lpF (l_X8_factorWhole_9 n) n (v1, (0 : Int32), (0 : Int32))) fun M18 =>
  Option.bind (f_X8_factorModulo n M18) fun v19 =>
  Option.bind (f_X8_copy n (1 : Int32) (19 : Int32) v19) fun v20 =>
  Option.bind (lpF (l_X8_factorWhole_111 n) n (v20, ((1 : Int32) <<< ((v20.2 36 10) &&& 31)) - (1 : Int32), (1 : Int32))) fun M42 =>
  Option.bind (ldI M42 42 (19 : Int32)) fun v43 =>
  Option.bind (
    if v43 ≤ 0 then
      some M42
    else
      Option.bind (f_X8_keep n (19 : Int32) M42) fun v44 =>
      some v44) fun M45 =>
  some M45
set_option maxRecDepth 100000 in
set_option maxHeartbeats 8000000 in
theorem b_X8_factorWhole {p : Program} {l : Launch} {e : Env} {s : State} {m : MethodId} {args : Array Value} {below : List Frame} {meth : Method} {c : Code} {Q : State → Prop} {G : gG} {A : Nat → Prop} {adr : Nat → Nat} (cx : cX p s m args meth c cX8_factorWhole none 6 yX8_factorWhole.cls) (hi : adi adr) {n : Nat} {M M' : Mem} 
    (h : f_X8_factorWhole n M = some M')
    (kr : ∀ (pc : Nat) (ls : Array Slot) (H : Heap) (locs : List Loc), decode cX8_factorWhole pc = .ok (.return_, 1) → wH G A s.heap s (LL adr) (wf G adr M') H locs → W p l e { frames := 7, cells := 0, slots := 0, locals := 183 } s m args below meth c H locs 0 0 Q (F0 m pc ls []))
    {ls : Array Slot} {H : Heap} {locs : List Loc} (hl : lv_has ls 6 [(0, .ref (adr 36))]) (hw : wH G A s.heap s (LL adr) (wf G adr M) H locs) : W p l e { frames := 7, cells := 0, slots := 0, locals := 183 } s m args below meth c H locs 0 0 Q (F0 m 0 ls []) := by
  obtain ⟨hx, hb, -, -, hown, hts, -⟩ := id cx
  have hown : s.vm.findClass RX8 = some m.cls := hown
  unfold f_X8_factorWhole at h
  refine lv_aload_n hx hb dX8_factorWhole_0 rfl (lv_at hl 0 rfl) ?_
  refine lv_iconst (v := (0 : Int32)) hx hb dX8_factorWhole_1 (by decide) ?_
  replace h := bnd h
  obtain ⟨v1, e1, h⟩ := h
  obtain rfl := pt_s e1
  refine m_putI (k := 36) (C := RX8) (T := TX8) (N := 18) (ref := "LiftFactorsModel") hx hb hi hts inX8_u tyX8 tyX8_ok nmX8 hown hw (by decide) rfl 11 (by decide) q_131 rfl rfl (by decide +kernel) rfl dX8_factorWhole_2 (fun H locs hw => ?_)
  obtain ⟨v1, e1⟩ : ∃ z9, z9 = sI M 36 11 (0 : Int32) := ⟨_, rfl⟩
  rw [← e1] at h hw
  refine lv_iconst (v := (0 : Int32)) hx hb dX8_factorWhole_5 (by decide) ?_
  refine lv_istore_n (lv' := [(1, .int (0 : Int32)), (0, .ref (adr 36))]) hx hb dX8_factorWhole_6 rfl hl (by decide) rfl (fun ls hl => ?_)
  refine lv_iconst (v := (0 : Int32)) hx hb dX8_factorWhole_7 (by decide) ?_
  refine lv_istore_n (lv' := [(2, .int (0 : Int32)), (1, .int (0 : Int32)), (0, .ref (adr 36))]) hx hb dX8_factorWhole_8 rfl hl (by decide) rfl (fun ls hl => ?_)
  replace h := bnd h
  obtain ⟨M18, j17, h⟩ := h
  refine lp_W (Wst := fun (st : Mem × Int32 × Int32) => ∀ (ls : Array Slot) (H : Heap) (locs : List Loc), lv_has ls 6 [(0, .ref (adr 36)), (1, .int st.2.1), (2, .int st.2.2)] → wH G A s.heap s (LL adr) (wf G adr st.1) H locs → W p l e { frames := 7, cells := 0, slots := 0, locals := 183 } s m args below meth c H locs 0 0 Q (F0 m 9 ls [])) (fin := fun (r : Mem) => ∀ (ls : Array Slot) (H : Heap) (locs : List Loc), lv_has ls 6 [(0, .ref (adr 36))] → wH G A s.heap s (LL adr) (wf G adr r) H locs → W p l e { frames := 7, cells := 0, slots := 0, locals := 183 } s m args below meth c H locs 0 0 Q (F0 m 88 ls [])) ?_ n _ _ j17 ?_ _ _ _ (lv_sub hl [2, 1, 0] rfl) hw
  · clear h j17 hw hl
    intro ⟨M2, v3, v4⟩ x h k1 k2 ls H locs hl hw
    (try dsimp only at k1 k2 hl hw ⊢)
    unfold l_X8_factorWhole_9 at h
    (try dsimp only at h)
    refine lv_iload_n hx hb dX8_factorWhole_9 rfl (lv_at hl 2 rfl) ?_
    refine lv_if_ne (tgt := 88) hx hb dX8_factorWhole_10 (by decide) (fun hc => ?_) (fun hc => ?_)
    · replace h := ite_f hc h
      cases h
      exact k1 _ rfl _ _ _ (lv_sub hl [0] rfl) hw
    · replace h := ite_t hc h
      refine lv_aload_n hx hb dX8_factorWhole_13 rfl (lv_at hl 0 rfl) ?_
      refine lv_iload_n hx hb dX8_factorWhole_14 rfl (lv_at hl 1 rfl) ?_
      replace h := bnd h
      obtain ⟨v5, e5, h⟩ := h
      refine m_callVv (k := 36) (As := [.int v3]) (rest := []) cx.fix hi hw (cc_X8_takePrime (l := l) (G := G) (sz := H.size) hi e5) (by decide) rfl rfl (w_cV 1 hts q_69 q_70 q_71 q_72 q_73 rfl rfl (by decide) (by decide)) hl.1 rfl (lv_room (Nat.le_of_ble_eq_true rfl)) dX8_factorWhole_15 (fun H locs hw => ?_)
      refine lv_aload_n hx hb dX8_factorWhole_18 rfl (lv_at hl 0 rfl) ?_
      refine lv_iconst (v := (1 : Int32)) hx hb dX8_factorWhole_19 (by decide) ?_
      refine lv_iconst (v := (5 : Int32)) hx hb dX8_factorWhole_20 (by decide) ?_
      replace h := bnd h
      obtain ⟨v6, e6, h⟩ := h
      refine m_callVv (k := 36) (As := [.int (1 : Int32), .int (5 : Int32)]) (rest := []) cx.fix hi hw (cc_X8_copy (l := l) (G := G) (sz := H.size) hi e6) (by decide) rfl rfl (w_cV 2 hts q_24 q_25 q_26 q_27 q_28 rfl rfl (by decide) (by decide)) hl.1 rfl (lv_room (Nat.le_of_ble_eq_true rfl)) dX8_factorWhole_21 (fun H locs hw => ?_)
      refine lv_aload_n hx hb dX8_factorWhole_24 rfl (lv_at hl 0 rfl) ?_
      refine lv_iconst (v := (5 : Int32)) hx hb dX8_factorWhole_25 (by decide) ?_
      replace h := bnd h
      obtain ⟨v7, e7, h⟩ := h
      refine m_callVv (k := 36) (As := [.int (5 : Int32)]) (rest := []) cx.fix hi hw (cc_X8_reduce (l := l) (G := G) (sz := H.size) hi e7) (by decide) rfl rfl (w_cV 1 hts q_74 q_75 q_76 q_77 q_78 rfl rfl (by decide) (by decide)) hl.1 rfl (lv_room (Nat.le_of_ble_eq_true rfl)) dX8_factorWhole_26 (fun H locs hw => ?_)
      refine lv_aload_n hx hb dX8_factorWhole_29 rfl (lv_at hl 0 rfl) ?_
      refine lv_iconst (v := (5 : Int32)) hx hb dX8_factorWhole_30 (by decide) ?_
      replace h := bnd h
      obtain ⟨v8, e8, h⟩ := h
      refine m_callVv (k := 36) (As := [.int (5 : Int32)]) (rest := []) cx.fix hi hw (cc_X8_monic (l := l) (G := G) (sz := H.size) hi e8) (by decide) rfl rfl (w_cV 1 hts q_57 q_58 q_59 q_60 q_61 rfl rfl (by decide) (by decide)) hl.1 rfl (lv_room (Nat.le_of_ble_eq_true rfl)) dX8_factorWhole_31 (fun H locs hw => ?_)
      refine lv_aload_n hx hb dX8_factorWhole_34 rfl (lv_at hl 0 rfl) ?_
      refine lv_iconst (v := (5 : Int32)) hx hb dX8_factorWhole_35 (by decide) ?_
      refine lv_bipush (v := (12 : Int32)) hx hb dX8_factorWhole_36 (by decide) ?_
      replace h := bnd h
      obtain ⟨v9, e9, h⟩ := h
      refine m_callVv (k := 36) (As := [.int (5 : Int32), .int (12 : Int32)]) (rest := []) cx.fix hi hw (cc_X8_copy (l := l) (G := G) (sz := H.size) hi e9) (by decide) rfl rfl (w_cV 2 hts q_24 q_25 q_26 q_27 q_28 rfl rfl (by decide) (by decide)) hl.1 rfl (lv_room (Nat.le_of_ble_eq_true rfl)) dX8_factorWhole_38 (fun H locs hw => ?_)
      refine lv_aload_n hx hb dX8_factorWhole_41 rfl (lv_at hl 0 rfl) ?_
      refine lv_iconst (v := (1 : Int32)) hx hb dX8_factorWhole_42 (by decide) ?_
      refine lv_iconst (v := (2 : Int32)) hx hb dX8_factorWhole_43 (by decide) ?_
      replace h := bnd h
      obtain ⟨v10, e10, h⟩ := h
      refine m_callVv (k := 36) (As := [.int (1 : Int32), .int (2 : Int32)]) (rest := []) cx.fix hi hw (cc_X8_copy (l := l) (G := G) (sz := H.size) hi e10) (by decide) rfl rfl (w_cV 2 hts q_24 q_25 q_26 q_27 q_28 rfl rfl (by decide) (by decide)) hl.1 rfl (lv_room (Nat.le_of_ble_eq_true rfl)) dX8_factorWhole_44 (fun H locs hw => ?_)
      refine lv_aload_n hx hb dX8_factorWhole_47 rfl (lv_at hl 0 rfl) ?_
      refine lv_iconst (v := (1 : Int32)) hx hb dX8_factorWhole_48 (by decide) ?_
      refine lv_iconst (v := (2 : Int32)) hx hb dX8_factorWhole_49 (by decide) ?_
      replace h := bnd h
      obtain ⟨v11, e11, h⟩ := h
      refine m_callVv (k := 36) (As := [.int (1 : Int32), .int (2 : Int32)]) (rest := []) cx.fix hi hw (cc_X8_derive (l := l) (G := G) (sz := H.size) hi e11) (by decide) rfl rfl (w_cV 2 hts q_132 q_133 q_134 q_135 q_136 rfl rfl (by decide) (by decide)) hl.1 rfl (lv_room (Nat.le_of_ble_eq_true rfl)) dX8_factorWhole_50 (fun H locs hw => ?_)
      refine lv_aload_n hx hb dX8_factorWhole_53 rfl (lv_at hl 0 rfl) ?_
      refine lv_iconst (v := (2 : Int32)) hx hb dX8_factorWhole_54 (by decide) ?_
      replace h := bnd h
      obtain ⟨v12, e12, h⟩ := h
      refine m_callVv (k := 36) (As := [.int (2 : Int32)]) (rest := []) cx.fix hi hw (cc_X8_reduce (l := l) (G := G) (sz := H.size) hi e12) (by decide) rfl rfl (w_cV 1 hts q_74 q_75 q_76 q_77 q_78 rfl rfl (by decide) (by decide)) hl.1 rfl (lv_room (Nat.le_of_ble_eq_true rfl)) dX8_factorWhole_55 (fun H locs hw => ?_)
      refine lv_aload_n hx hb dX8_factorWhole_58 rfl (lv_at hl 0 rfl) ?_
      refine lv_iconst (v := (5 : Int32)) hx hb dX8_factorWhole_59 (by decide) ?_
      refine lv_iconst (v := (2 : Int32)) hx hb dX8_factorWhole_60 (by decide) ?_
      refine lv_bipush (v := (11 : Int32)) hx hb dX8_factorWhole_61 (by decide) ?_
      replace h := bnd h
      obtain ⟨v13, e13, h⟩ := h
      refine m_callVv (k := 36) (As := [.int (5 : Int32), .int (2 : Int32), .int (11 : Int32)]) (rest := []) cx.fix hi hw (cc_X8_commonRow (l := l) (G := G) (sz := H.size) hi e13) (by decide) rfl rfl (w_cV 3 hts q_79 q_80 q_81 q_82 q_83 rfl rfl (by decide) (by decide)) hl.1 rfl (lv_room (Nat.le_of_ble_eq_true rfl)) dX8_factorWhole_63 (fun H locs hw => ?_)
      refine lv_aload_n hx hb dX8_factorWhole_66 rfl (lv_at hl 0 rfl) ?_
      refine m_get (k := 36) (C := RX8) (T := TX8) (N := 18) (ref := "LiftFactorsModel") (v := .ref (adr 42)) hx hb hi hts inX8_u hown hw (by decide) rfl 8 (by decide) q_1 rfl rfl dX8_factorWhole_67 ?_
      refine lv_bipush (v := (11 : Int32)) hx hb dX8_factorWhole_70 (by decide) ?_
      replace h := bnd h
      obtain ⟨v14, e14, h⟩ := h
      refine m_iald hx hb hi hw e14 dX8_factorWhole_72 ?_
      replace h := bnd h
      obtain ⟨v15, j16, h⟩ := h
      have kj : ∀ (ls : Array Slot) (H : Heap) (locs : List Loc), lv_has ls 6 [(0, .ref (adr 36)), (1, .int v3)] → wH G A s.heap s (LL adr) (wf G adr v13) H locs → W p l e { frames := 7, cells := 0, slots := 0, locals := 183 } s m args below meth c H locs 0 0 Q (F0 m 81 ls [.int v15]) := by
        intro ls H locs hl hw
        refine lv_istore_n (lv' := [(2, .int v15), (0, .ref (adr 36)), (1, .int v3)]) hx hb dX8_factorWhole_81 rfl hl (by decide) rfl (fun ls hl => ?_)
        refine lv_iinc (v := v3 + 1) (lv' := [(1, .int (v3 + 1)), (2, .int v15), (0, .ref (adr 36))]) hx hb dX8_factorWhole_82 hl (k := 2) rfl (inc_p _ (by decide)) (by decide) rfl (fun ls hl => ?_)
        refine lv_goto (tgt := 9) hx hb dX8_factorWhole_85 (by decide) ?_
        cases h
        exact k2 _ rfl _ _ _ (lv_sub hl [2, 0, 1] rfl) hw
      clear h
      replace h := j16
      clear j16
      refine lv_if_ne (tgt := 80) hx hb dX8_factorWhole_73 (by decide) (fun hc => ?_) (fun hc => ?_)
      · replace h := ite_f hc h
        refine lv_iconst (v := (0 : Int32)) hx hb dX8_factorWhole_80 (by decide) ?_
        cases h
        exact kj _ _ _ (lv_sub hl [0, 1] rfl) hw
      · replace h := ite_t hc h
        refine lv_iconst (v := (1 : Int32)) hx hb dX8_factorWhole_76 (by decide) ?_
        refine lv_goto (tgt := 81) hx hb dX8_factorWhole_77 (by decide) ?_
        cases h
        exact kj _ _ _ (lv_sub hl [0, 1] rfl) hw
  · clear hw hl
    intro ls H locs hl hw
    (try dsimp only at hl hw ⊢)
    refine lv_aload_n hx hb dX8_factorWhole_88 rfl (lv_at hl 0 rfl) ?_
    replace h := bnd h
    obtain ⟨v19, e19, h⟩ := h
    refine m_callVv (k := 36) (As := []) (rest := []) cx.fix hi hw (cc_X8_factorModulo (l := l) (G := G) (sz := H.size) hi e19) (by decide) rfl rfl (w_cV 0 hts q_137 q_138 q_139 q_140 q_141 rfl rfl (by decide) (by decide)) hl.1 rfl (lv_room (Nat.le_of_ble_eq_true rfl)) dX8_factorWhole_89 (fun H locs hw => ?_)
    refine lv_aload_n hx hb dX8_factorWhole_92 rfl (lv_at hl 0 rfl) ?_
    refine lv_iconst (v := (1 : Int32)) hx hb dX8_factorWhole_93 (by decide) ?_
    refine lv_bipush (v := (19 : Int32)) hx hb dX8_factorWhole_94 (by decide) ?_
    replace h := bnd h
    obtain ⟨v20, e20, h⟩ := h
    refine m_callVv (k := 36) (As := [.int (1 : Int32), .int (19 : Int32)]) (rest := []) cx.fix hi hw (cc_X8_copy (l := l) (G := G) (sz := H.size) hi e20) (by decide) rfl rfl (w_cV 2 hts q_24 q_25 q_26 q_27 q_28 rfl rfl (by decide) (by decide)) hl.1 rfl (lv_room (Nat.le_of_ble_eq_true rfl)) dX8_factorWhole_96 (fun H locs hw => ?_)
    refine lv_iconst (v := (1 : Int32)) hx hb dX8_factorWhole_99 (by decide) ?_
    refine lv_aload_n hx hb dX8_factorWhole_100 rfl (lv_at hl 0 rfl) ?_
    refine m_get (k := 36) (C := RX8) (T := TX8) (N := 18) (ref := "LiftFactorsModel") (v := .int (v20.2 36 10)) hx hb hi hts inX8_u hown hw (by decide) rfl 10 (by decide) q_95 rfl rfl dX8_factorWhole_101 ?_
    refine lv_ishl hx hb dX8_factorWhole_104 ?_
    refine lv_iconst (v := (1 : Int32)) hx hb dX8_factorWhole_105 (by decide) ?_
    refine lv_isub hx hb dX8_factorWhole_106 ?_
    refine lv_istore_n (lv' := [(3, .int (((1 : Int32) <<< ((v20.2 36 10) &&& 31)) - (1 : Int32))), (0, .ref (adr 36))]) hx hb dX8_factorWhole_107 rfl hl (by decide) rfl (fun ls hl => ?_)
    refine lv_iconst (v := (1 : Int32)) hx hb dX8_factorWhole_108 (by decide) ?_
    refine lv_istore (lv' := [(4, .int (1 : Int32)), (3, .int (((1 : Int32) <<< ((v20.2 36 10) &&& 31)) - (1 : Int32))), (0, .ref (adr 36))]) hx hb dX8_factorWhole_109 hl (by decide) rfl (fun ls hl => ?_)
    replace h := bnd h
    obtain ⟨M42, j41, h⟩ := h
    refine lp_W (Wst := fun (st : Mem × Int32 × Int32) => ∀ (ls : Array Slot) (H : Heap) (locs : List Loc), lv_has ls 6 [(0, .ref (adr 36)), (3, .int st.2.1), (4, .int st.2.2)] → wH G A s.heap s (LL adr) (wf G adr st.1) H locs → W p l e { frames := 7, cells := 0, slots := 0, locals := 183 } s m args below meth c H locs 0 0 Q (F0 m 111 ls [])) (fin := fun (r : Mem) => ∀ (ls : Array Slot) (H : Heap) (locs : List Loc), lv_has ls 6 [(0, .ref (adr 36))] → wH G A s.heap s (LL adr) (wf G adr r) H locs → W p l e { frames := 7, cells := 0, slots := 0, locals := 183 } s m args below meth c H locs 0 0 Q (F0 m 218 ls [])) ?_ n _ _ j41 ?_ _ _ _ (lv_sub hl [2, 1, 0] rfl) hw
    · clear h j41 hw hl
      intro ⟨M21, v22, v23⟩ x h k1 k2 ls H locs hl hw
      (try dsimp only at k1 k2 hl hw ⊢)
      unfold l_X8_factorWhole_111 at h
      (try dsimp only at h)
      refine lv_iconst (v := (2 : Int32)) hx hb dX8_factorWhole_111 (by decide) ?_
      refine lv_iload hx hb dX8_factorWhole_112 (lv_at hl 2 rfl) ?_
      refine lv_imul hx hb dX8_factorWhole_114 ?_
      refine lv_iload_n hx hb dX8_factorWhole_115 rfl (lv_at hl 1 rfl) ?_
      replace h := bnd h
      obtain ⟨v24, e24, h⟩ := h
      refine m_callSi (As := [.int v22]) (rest := [.int ((2 : Int32) * v23)]) cx.fix hw (cc_X8_bits (l := l) (G := G) (sz := H.size) (M := M21) hi e24) (w_cS 1 hts q_142 q_143 q_144 q_145 rfl rfl (by decide) (by decide)) hl.1 rfl (lv_room (Nat.le_of_ble_eq_true rfl)) dX8_factorWhole_116 (fun H locs hw => ?_)
      refine lv_icmp_gt (tgt := 218) hx hb dX8_factorWhole_119 (by decide) (fun hc => ?_) (fun hc => ?_)
      · replace h := ite_t hc h
        cases h
        exact k1 _ rfl _ _ _ (lv_sub hl [0] rfl) hw
      · replace h := ite_f hc h
        refine lv_iconst (v := (1 : Int32)) hx hb dX8_factorWhole_122 (by decide) ?_
        refine lv_istore (lv' := [(5, .int (1 : Int32)), (0, .ref (adr 36)), (3, .int v22), (4, .int v23)]) hx hb dX8_factorWhole_123 hl (by decide) rfl (fun ls hl => ?_)
        replace h := bnd h
        obtain ⟨⟨M39, v40⟩, j38, h⟩ := h
        refine lp_W (Wst := fun (st : Mem × Int32 × Int32) => ∀ (ls : Array Slot) (H : Heap) (locs : List Loc), lv_has ls 6 [(0, .ref (adr 36)), (3, .int st.2.1), (4, .int v23), (5, .int st.2.2)] → wH G A s.heap s (LL adr) (wf G adr st.1) H locs → W p l e { frames := 7, cells := 0, slots := 0, locals := 183 } s m args below meth c H locs 0 0 Q (F0 m 125 ls [])) (fin := fun (r : Mem × Int32) => ∀ (ls : Array Slot) (H : Heap) (locs : List Loc), lv_has ls 6 [(0, .ref (adr 36)), (3, .int r.2), (4, .int v23)] → wH G A s.heap s (LL adr) (wf G adr r.1) H locs → W p l e { frames := 7, cells := 0, slots := 0, locals := 183 } s m args below meth c H locs 0 0 Q (F0 m 212 ls [])) ?_ n _ _ j38 ?_ _ _ _ (lv_sub hl [1, 2, 3, 0] rfl) hw
        · clear h j38 hw hl
          intro ⟨M25, v26, v27⟩ x h k1 k2 ls H locs hl hw
          (try dsimp only at k1 k2 hl hw ⊢)
          unfold l_X8_factorWhole_125 at h
          (try dsimp only at h)
          refine lv_iload hx hb dX8_factorWhole_125 (lv_at hl 3 rfl) ?_
          refine lv_iconst (v := (1 : Int32)) hx hb dX8_factorWhole_127 (by decide) ?_
          refine lv_aload_n hx hb dX8_factorWhole_128 rfl (lv_at hl 0 rfl) ?_
          refine m_get (k := 36) (C := RX8) (T := TX8) (N := 18) (ref := "LiftFactorsModel") (v := .int (M25.2 36 10)) hx hb hi hts inX8_u hown hw (by decide) rfl 10 (by decide) q_95 rfl rfl dX8_factorWhole_129 ?_
          refine lv_ishl hx hb dX8_factorWhole_132 ?_
          refine lv_icmp_ge (tgt := 212) hx hb dX8_factorWhole_133 (by decide) (fun hc => ?_) (fun hc => ?_)
          · replace h := ite_t hc h
            cases h
            exact k1 _ rfl _ _ _ (lv_sub hl [0, 1, 2] rfl) hw
          · replace h := ite_f hc h
            refine lv_iload hx hb dX8_factorWhole_136 (lv_at hl 3 rfl) ?_
            refine lv_iload_n hx hb dX8_factorWhole_138 rfl (lv_at hl 1 rfl) ?_
            refine lv_iconst (v := (-1 : Int32)) hx hb dX8_factorWhole_139 (by decide) ?_
            refine lv_ixor hx hb dX8_factorWhole_140 ?_
            refine lv_iand hx hb dX8_factorWhole_141 ?_
            replace h := bnd h
            obtain ⟨⟨M35, v36⟩, j37, h⟩ := h
            have kj : ∀ (ls : Array Slot) (H : Heap) (locs : List Loc), lv_has ls 6 [(0, .ref (adr 36)), (3, .int v36), (4, .int v23), (5, .int v27)] → wH G A s.heap s (LL adr) (wf G adr M35) H locs → W p l e { frames := 7, cells := 0, slots := 0, locals := 183 } s m args below meth c H locs 0 0 Q (F0 m 206 ls []) := by
              intro ls H locs hl hw
              refine lv_iinc (v := v27 + 1) (lv' := [(5, .int (v27 + 1)), (0, .ref (adr 36)), (3, .int v36), (4, .int v23)]) hx hb dX8_factorWhole_206 hl (k := 3) rfl (inc_p _ (by decide)) (by decide) rfl (fun ls hl => ?_)
              refine lv_goto (tgt := 125) hx hb dX8_factorWhole_209 (by decide) ?_
              cases h
              exact k2 _ rfl _ _ _ (lv_sub hl [1, 2, 3, 0] rfl) hw
            clear h
            replace h := j37
            clear j37
            refine lv_if_ne (tgt := 206) hx hb dX8_factorWhole_142 (by decide) (fun hc => ?_) (fun hc => ?_)
            · replace h := ite_f hc h
              cases h
              exact kj _ _ _ (lv_sub hl [0, 1, 2, 3] rfl) hw
            · replace h := ite_t hc h
              refine lv_iload hx hb dX8_factorWhole_145 (lv_at hl 3 rfl) ?_
              replace h := bnd h
              obtain ⟨v28, e28, h⟩ := h
              refine m_callSi (As := [.int v27]) (rest := []) cx.fix hw (cc_X8_bits (l := l) (G := G) (sz := H.size) (M := M25) hi e28) (w_cS 1 hts q_142 q_143 q_144 q_145 rfl rfl (by decide) (by decide)) hl.1 rfl (lv_room (Nat.le_of_ble_eq_true rfl)) dX8_factorWhole_147 (fun H locs hw => ?_)
              refine lv_iload hx hb dX8_factorWhole_150 (lv_at hl 2 rfl) ?_
              refine lv_icmp_ne (tgt := 206) hx hb dX8_factorWhole_152 (by decide) (fun hc => ?_) (fun hc => ?_)
              · replace h := ite_f hc h
                cases h
                exact kj _ _ _ (lv_sub hl [0, 1, 2, 3] rfl) hw
              · replace h := ite_t hc h
                refine lv_iconst (v := (2 : Int32)) hx hb dX8_factorWhole_155 (by decide) ?_
                refine lv_iload hx hb dX8_factorWhole_156 (lv_at hl 2 rfl) ?_
                refine lv_imul hx hb dX8_factorWhole_158 ?_
                refine lv_iload_n hx hb dX8_factorWhole_159 rfl (lv_at hl 1 rfl) ?_
                replace h := bnd h
                obtain ⟨v29, e29, h⟩ := h
                refine m_callSi (As := [.int v26]) (rest := [.int ((2 : Int32) * v23)]) cx.fix hw (cc_X8_bits (l := l) (G := G) (sz := H.size) (M := M25) hi e29) (w_cS 1 hts q_142 q_143 q_144 q_145 rfl rfl (by decide) (by decide)) hl.1 rfl (lv_room (Nat.le_of_ble_eq_true rfl)) dX8_factorWhole_160 (fun H locs hw => ?_)
                refine lv_icmp_gt (tgt := 206) hx hb dX8_factorWhole_163 (by decide) (fun hc => ?_) (fun hc => ?_)
                · replace h := ite_t hc h
                  cases h
                  exact kj _ _ _ (lv_sub hl [0, 1, 2, 3] rfl) hw
                · replace h := ite_f hc h
                  refine lv_aload_n hx hb dX8_factorWhole_166 rfl (lv_at hl 0 rfl) ?_
                  refine lv_iload hx hb dX8_factorWhole_167 (lv_at hl 3 rfl) ?_
                  replace h := bnd h
                  obtain ⟨v30, e30, h⟩ := h
                  refine m_callVv (k := 36) (As := [.int v27]) (rest := []) cx.fix hi hw (cc_X8_candidate (l := l) (G := G) (sz := H.size) hi e30) (by decide) rfl rfl (w_cV 1 hts q_146 q_147 q_148 q_149 q_150 rfl rfl (by decide) (by decide)) hl.1 rfl (lv_room (Nat.le_of_ble_eq_true rfl)) dX8_factorWhole_169 (fun H locs hw => ?_)
                  refine lv_aload_n hx hb dX8_factorWhole_172 rfl (lv_at hl 0 rfl) ?_
                  refine lv_bipush (v := (7 : Int32)) hx hb dX8_factorWhole_173 (by decide) ?_
                  refine lv_bipush (v := (19 : Int32)) hx hb dX8_factorWhole_175 (by decide) ?_
                  refine lv_ldc2 (v := (20000000 : Int64)) hx hb hown (hts _ q_23) dX8_factorWhole_177 ?_
                  replace h := bnd h
                  obtain ⟨⟨v31, M32⟩, e31, h⟩ := h
                  refine m_callVi (k := 36) (As := [.int (7 : Int32), .int (19 : Int32), .long (20000000 : Int64)]) (rest := []) cx.fix hi hw (cc_X8_divides (l := l) (G := G) (sz := H.size) hi e31) (by decide) rfl rfl (w_cV 3 hts q_90 q_91 q_92 q_93 q_94 rfl rfl (by decide) (by decide)) hl.1 rfl (lv_room (Nat.le_of_ble_eq_true rfl)) dX8_factorWhole_180 (fun H locs hw => ?_)
                  refine lv_if_eq (tgt := 206) hx hb dX8_factorWhole_183 (by decide) (fun hc => ?_) (fun hc => ?_)
                  · replace h := ite_t hc h
                    cases h
                    exact kj _ _ _ (lv_sub hl [0, 1, 2, 3] rfl) hw
                  · replace h := ite_f hc h
                    refine lv_aload_n hx hb dX8_factorWhole_186 rfl (lv_at hl 0 rfl) ?_
                    refine lv_bipush (v := (7 : Int32)) hx hb dX8_factorWhole_187 (by decide) ?_
                    replace h := bnd h
                    obtain ⟨v33, e33, h⟩ := h
                    refine m_callVv (k := 36) (As := [.int (7 : Int32)]) (rest := []) cx.fix hi hw (cc_X8_keep (l := l) (G := G) (sz := H.size) hi e33) (by decide) rfl rfl (w_cV 1 hts q_151 q_152 q_153 q_154 q_155 rfl rfl (by decide) (by decide)) hl.1 rfl (lv_room (Nat.le_of_ble_eq_true rfl)) dX8_factorWhole_189 (fun H locs hw => ?_)
                    refine lv_aload_n hx hb dX8_factorWhole_192 rfl (lv_at hl 0 rfl) ?_
                    refine lv_iconst (v := (3 : Int32)) hx hb dX8_factorWhole_193 (by decide) ?_
                    refine lv_bipush (v := (19 : Int32)) hx hb dX8_factorWhole_194 (by decide) ?_
                    replace h := bnd h
                    obtain ⟨v34, e34, h⟩ := h
                    refine m_callVv (k := 36) (As := [.int (3 : Int32), .int (19 : Int32)]) (rest := []) cx.fix hi hw (cc_X8_copy (l := l) (G := G) (sz := H.size) hi e34) (by decide) rfl rfl (w_cV 2 hts q_24 q_25 q_26 q_27 q_28 rfl rfl (by decide) (by decide)) hl.1 rfl (lv_room (Nat.le_of_ble_eq_true rfl)) dX8_factorWhole_196 (fun H locs hw => ?_)
                    refine lv_iload_n hx hb dX8_factorWhole_199 rfl (lv_at hl 1 rfl) ?_
                    refine lv_iload hx hb dX8_factorWhole_200 (lv_at hl 3 rfl) ?_
                    refine lv_iconst (v := (-1 : Int32)) hx hb dX8_factorWhole_202 (by decide) ?_
                    refine lv_ixor hx hb dX8_factorWhole_203 ?_
                    refine lv_iand hx hb dX8_factorWhole_204 ?_
                    refine lv_istore_n (lv' := [(3, .int (v26 &&& (v27 ^^^ (-1 : Int32)))), (0, .ref (adr 36)), (4, .int v23), (5, .int v27)]) hx hb dX8_factorWhole_205 rfl hl (by decide) rfl (fun ls hl => ?_)
                    cases h
                    exact kj _ _ _ (lv_sub hl [1, 0, 2, 3] rfl) hw
        · clear hw hl
          intro ls H locs hl hw
          (try dsimp only at hl hw ⊢)
          refine lv_iinc (v := v23 + 1) (lv' := [(4, .int (v23 + 1)), (0, .ref (adr 36)), (3, .int v40)]) hx hb dX8_factorWhole_212 hl (k := 2) rfl (inc_p _ (by decide)) (by decide) rfl (fun ls hl => ?_)
          refine lv_goto (tgt := 111) hx hb dX8_factorWhole_215 (by decide) ?_
          cases h
          exact k2 _ rfl _ _ _ (lv_sub hl [1, 2, 0] rfl) hw
    · clear hw hl
      intro ls H locs hl hw
      (try dsimp only at hl hw ⊢)
      refine lv_aload_n hx hb dX8_factorWhole_218 rfl (lv_at hl 0 rfl) ?_
      refine m_get (k := 36) (C := RX8) (T := TX8) (N := 18) (ref := "LiftFactorsModel") (v := .ref (adr 42)) hx hb hi hts inX8_u hown hw (by decide) rfl 8 (by decide) q_1 rfl rfl dX8_factorWhole_219 ?_
      refine lv_bipush (v := (19 : Int32)) hx hb dX8_factorWhole_222 (by decide) ?_
      replace h := bnd h
      obtain ⟨v43, e43, h⟩ := h
      refine m_iald hx hb hi hw e43 dX8_factorWhole_224 ?_
      replace h := bnd h
      obtain ⟨M45, j46, h⟩ := h
      have kj : ∀ (ls : Array Slot) (H : Heap) (locs : List Loc), lv_has ls 6 [] → wH G A s.heap s (LL adr) (wf G adr M45) H locs → W p l e { frames := 7, cells := 0, slots := 0, locals := 183 } s m args below meth c H locs 0 0 Q (F0 m 234 ls []) := by
        intro ls H locs hl hw
        cases h
        exact kr _ _ _ _ dX8_factorWhole_234 hw
      clear h
      replace h := j46
      clear j46
      refine lv_if_le (tgt := 234) hx hb dX8_factorWhole_225 (by decide) (fun hc => ?_) (fun hc => ?_)
      · replace h := ite_t hc h
        cases h
        exact kj _ _ _ (lv_sub hl [] rfl) hw
      · replace h := ite_f hc h
        refine lv_aload_n hx hb dX8_factorWhole_228 rfl (lv_at hl 0 rfl) ?_
        refine lv_bipush (v := (19 : Int32)) hx hb dX8_factorWhole_229 (by decide) ?_
        replace h := bnd h
        obtain ⟨v44, e44, h⟩ := h
        refine m_callVv (k := 36) (As := [.int (19 : Int32)]) (rest := []) cx.fix hi hw (cc_X8_keep (l := l) (G := G) (sz := H.size) hi e44) (by decide) rfl rfl (w_cV 1 hts q_151 q_152 q_153 q_154 q_155 rfl rfl (by decide) (by decide)) hl.1 rfl (lv_room (Nat.le_of_ble_eq_true rfl)) dX8_factorWhole_231 (fun H locs hw => ?_)
        cases h
        exact kj _ _ _ (lv_sub hl [] rfl) hw
theorem cc_X8_factorWhole {l : Launch} {G : gG} {adr : Nat → Nat} {sz : Nat} (hi : adi adr) {n : Nat} {M M' : Mem} (h : f_X8_factorWhole n M = some M') : mV l yX8_factorWhole cX8_factorWhole 6 none { frames := 7, cells := 0, slots := 0, locals := 183 } G adr [.ref (adr 36)] M sz M' := by
  refine wEnter (by decide) (Nat.le_of_ble_eq_true rfl) ?_
  intro p e s m below meth c ls cx hinit hl hsz hw
  exact b_X8_factorWhole cx hi h (fun pc ls H locs hd hw => w_vret (post := fun (u : Mem) => u = M') (lf := fun u => (LL adr, wf G adr u)) cx.1 cx.2.1 cx.2.2.1 cx.2.2.2.2.2.2 M' hw rfl hd) hl hw
def l_X8_before_43 (a0 : Int32) (a1 : Int32) (M : Mem) : Int32 → Option (((Int32) ⊕ (Unit)) ⊕ (Int32)) := fun v4 =>
  if v4 < 0 then
    some (.inl (.inr ()))
  else
    Option.bind (ldJ M 41 (((24 : Int32) * a0) + v4)) fun v5 =>
    Option.bind (ldJ M 41 (((24 : Int32) * a1) + v4)) fun v6 =>
    if v5 = v6 then
      some (.inr (v4 + (-1)))
    else
      Option.bind (ldJ M 41 (((24 : Int32) * a0) + v4)) fun v7 =>
      Option.bind (ldJ M 41 (((24 : Int32) * a1) + v4)) fun v8 =>
      Option.bind (
        if v8 ≤ v7 then
          some (0 : Int32)
        else
          some (1 : Int32)) fun v9 =>
      some (.inl (.inl v9))
def f_X8_before (n : Nat) (a0 : Int32) (a1 : Int32) (M : Mem) : Option Int32 :=
  Option.bind (ldI M 42 a0) fun v1 =>
  Option.bind (ldI M 42 a1) fun v2 =>
  if v1 = v2 then
    Option.bind (ldI M 42 a0) fun v3 =>
    Option.bind (lpF (l_X8_before_43 a0 a1 M) n v3) fun r => match r with
    | .inl o => some o
    | .inr () =>
      some (0 : Int32)
  else
    Option.bind (ldI M 42 a0) fun v13 =>
    Option.bind (ldI M 42 a1) fun v14 =>
    Option.bind (
      if v14 ≤ v13 then
        some (0 : Int32)
      else
        some (1 : Int32)) fun v15 =>
    Option.bind (bz v15) fun v16 =>
    some v16
set_option maxRecDepth 100000 in
set_option maxHeartbeats 8000000 in
theorem b_X8_before {p : Program} {l : Launch} {e : Env} {s : State} {m : MethodId} {args : Array Value} {below : List Frame} {meth : Method} {c : Code} {Q : State → Prop} {G : gG} {A : Nat → Prop} {adr : Nat → Nat} (cx : cX p s m args meth c cX8_before (some .boolean) 4 yX8_before.cls) (hi : adi adr) {n : Nat} {a0 : Int32} {a1 : Int32} {M : Mem} {r : Int32} 
    (h : f_X8_before n a0 a1 M = some r)
    (kr : ∀ (pc : Nat) (ls : Array Slot) (H : Heap) (locs : List Loc), decode cX8_before pc = .ok (.ireturn, 1) → narrow .boolean (.int r) = .int r → wH G A s.heap s (LL adr) (wf G adr M) H locs → W p l e { frames := 0, cells := 0, slots := 0, locals := 0 } s m args below meth c H locs 0 0 Q (F0 m pc ls [.int r]))
    {ls : Array Slot} {H : Heap} {locs : List Loc} (hl : lv_has ls 4 [(0, .ref (adr 36)), (1, .int a0), (2, .int a1)]) (hw : wH G A s.heap s (LL adr) (wf G adr M) H locs) : W p l e { frames := 0, cells := 0, slots := 0, locals := 0 } s m args below meth c H locs 0 0 Q (F0 m 0 ls []) := by
  obtain ⟨hx, hb, -, -, hown, hts, -⟩ := id cx
  have hown : s.vm.findClass RX8 = some m.cls := hown
  unfold f_X8_before at h
  refine lv_aload_n hx hb dX8_before_0 rfl (lv_at hl 0 rfl) ?_
  refine m_get (k := 36) (C := RX8) (T := TX8) (N := 18) (ref := "LiftFactorsModel") (v := .ref (adr 42)) hx hb hi hts inX8_u hown hw (by decide) rfl 8 (by decide) q_1 rfl rfl dX8_before_1 ?_
  refine lv_iload_n hx hb dX8_before_4 rfl (lv_at hl 1 rfl) ?_
  replace h := bnd h
  obtain ⟨v1, e1, h⟩ := h
  refine m_iald hx hb hi hw e1 dX8_before_5 ?_
  refine lv_aload_n hx hb dX8_before_6 rfl (lv_at hl 0 rfl) ?_
  refine m_get (k := 36) (C := RX8) (T := TX8) (N := 18) (ref := "LiftFactorsModel") (v := .ref (adr 42)) hx hb hi hts inX8_u hown hw (by decide) rfl 8 (by decide) q_1 rfl rfl dX8_before_7 ?_
  refine lv_iload_n hx hb dX8_before_10 rfl (lv_at hl 2 rfl) ?_
  replace h := bnd h
  obtain ⟨v2, e2, h⟩ := h
  refine m_iald hx hb hi hw e2 dX8_before_11 ?_
  refine lv_icmp_eq (tgt := 36) hx hb dX8_before_12 (by decide) (fun hc => ?_) (fun hc => ?_)
  · replace h := ite_t hc h
    refine lv_aload_n hx hb dX8_before_36 rfl (lv_at hl 0 rfl) ?_
    refine m_get (k := 36) (C := RX8) (T := TX8) (N := 18) (ref := "LiftFactorsModel") (v := .ref (adr 42)) hx hb hi hts inX8_u hown hw (by decide) rfl 8 (by decide) q_1 rfl rfl dX8_before_37 ?_
    refine lv_iload_n hx hb dX8_before_40 rfl (lv_at hl 1 rfl) ?_
    replace h := bnd h
    obtain ⟨v3, e3, h⟩ := h
    refine m_iald hx hb hi hw e3 dX8_before_41 ?_
    refine lv_istore_n (lv' := [(3, .int v3), (0, .ref (adr 36)), (1, .int a0), (2, .int a1)]) hx hb dX8_before_42 rfl hl (by decide) rfl (fun ls hl => ?_)
    replace h := bnd h
    obtain ⟨o12, j11, h⟩ := h
    refine lp_W (Wst := fun (st : Int32) => ∀ (ls : Array Slot) (H : Heap) (locs : List Loc), lv_has ls 4 [(0, .ref (adr 36)), (1, .int a0), (2, .int a1), (3, .int st)] → wH G A s.heap s (LL adr) (wf G adr M) H locs → W p l e { frames := 0, cells := 0, slots := 0, locals := 0 } s m args below meth c H locs 0 0 Q (F0 m 43 ls [])) (fin := fun (r : (Int32) ⊕ (Unit)) => match r with
      | .inl o => ∀ (pc : Nat) (ls : Array Slot) (H : Heap) (locs : List Loc), decode cX8_before pc = .ok (.ireturn, 1) → narrow .boolean (.int o) = .int o → wH G A s.heap s (LL adr) (wf G adr M) H locs → W p l e { frames := 0, cells := 0, slots := 0, locals := 0 } s m args below meth c H locs 0 0 Q (F0 m pc ls [.int o])
      | .inr q => ∀ (ls : Array Slot) (H : Heap) (locs : List Loc), lv_has ls 4 [] → wH G A s.heap s (LL adr) (wf G adr M) H locs → W p l e { frames := 0, cells := 0, slots := 0, locals := 0 } s m args below meth c H locs 0 0 Q (F0 m 111 ls [])) ?_ n _ _ j11 ?_ _ _ _ (lv_sub hl [1, 2, 3, 0] rfl) hw
    · clear h j11 hw hl
      intro v4 x h k1 k2 ls H locs hl hw
      (try dsimp only at k2 hl hw ⊢)
      unfold l_X8_before_43 at h
      (try dsimp only at h)
      refine lv_iload_n hx hb dX8_before_43 rfl (lv_at hl 3 rfl) ?_
      refine lv_if_lt (tgt := 111) hx hb dX8_before_44 (by decide) (fun hc => ?_) (fun hc => ?_)
      · replace h := ite_t hc h
        cases h
        exact k1 _ rfl _ _ _ (lv_sub hl [] rfl) hw
      · replace h := ite_f hc h
        refine lv_aload_n hx hb dX8_before_47 rfl (lv_at hl 0 rfl) ?_
        refine m_get (k := 36) (C := RX8) (T := TX8) (N := 18) (ref := "LiftFactorsModel") (v := .ref (adr 41)) hx hb hi hts inX8_u hown hw (by decide) rfl 7 (by decide) q_0 rfl rfl dX8_before_48 ?_
        refine lv_bipush (v := (24 : Int32)) hx hb dX8_before_51 (by decide) ?_
        refine lv_iload_n hx hb dX8_before_53 rfl (lv_at hl 1 rfl) ?_
        refine lv_imul hx hb dX8_before_54 ?_
        refine lv_iload_n hx hb dX8_before_55 rfl (lv_at hl 3 rfl) ?_
        refine lv_iadd hx hb dX8_before_56 ?_
        replace h := bnd h
        obtain ⟨v5, e5, h⟩ := h
        refine m_lald hx hb hi hw e5 dX8_before_57 ?_
        refine lv_aload_n hx hb dX8_before_58 rfl (lv_at hl 0 rfl) ?_
        refine m_get (k := 36) (C := RX8) (T := TX8) (N := 18) (ref := "LiftFactorsModel") (v := .ref (adr 41)) hx hb hi hts inX8_u hown hw (by decide) rfl 7 (by decide) q_0 rfl rfl dX8_before_59 ?_
        refine lv_bipush (v := (24 : Int32)) hx hb dX8_before_62 (by decide) ?_
        refine lv_iload_n hx hb dX8_before_64 rfl (lv_at hl 2 rfl) ?_
        refine lv_imul hx hb dX8_before_65 ?_
        refine lv_iload_n hx hb dX8_before_66 rfl (lv_at hl 3 rfl) ?_
        refine lv_iadd hx hb dX8_before_67 ?_
        replace h := bnd h
        obtain ⟨v6, e6, h⟩ := h
        refine m_lald hx hb hi hw e6 dX8_before_68 ?_
        refine m_lcmp_eq (tgt := 105) hx hb dX8_before_69 dX8_before_70 (by decide) (fun hc => ?_) (fun hc => ?_)
        · replace h := ite_t hc h
          refine lv_iinc (v := v4 + (-1)) (lv' := [(3, .int (v4 + (-1))), (0, .ref (adr 36)), (1, .int a0), (2, .int a1)]) hx hb dX8_before_105 hl (k := 3) rfl (inc_p _ (by decide)) (by decide) rfl (fun ls hl => ?_)
          refine lv_goto (tgt := 43) hx hb dX8_before_108 (by decide) ?_
          cases h
          exact k2 _ rfl _ _ _ (lv_sub hl [1, 2, 3, 0] rfl) hw
        · replace h := ite_f hc h
          refine lv_aload_n hx hb dX8_before_73 rfl (lv_at hl 0 rfl) ?_
          refine m_get (k := 36) (C := RX8) (T := TX8) (N := 18) (ref := "LiftFactorsModel") (v := .ref (adr 41)) hx hb hi hts inX8_u hown hw (by decide) rfl 7 (by decide) q_0 rfl rfl dX8_before_74 ?_
          refine lv_bipush (v := (24 : Int32)) hx hb dX8_before_77 (by decide) ?_
          refine lv_iload_n hx hb dX8_before_79 rfl (lv_at hl 1 rfl) ?_
          refine lv_imul hx hb dX8_before_80 ?_
          refine lv_iload_n hx hb dX8_before_81 rfl (lv_at hl 3 rfl) ?_
          refine lv_iadd hx hb dX8_before_82 ?_
          replace h := bnd h
          obtain ⟨v7, e7, h⟩ := h
          refine m_lald hx hb hi hw e7 dX8_before_83 ?_
          refine lv_aload_n hx hb dX8_before_84 rfl (lv_at hl 0 rfl) ?_
          refine m_get (k := 36) (C := RX8) (T := TX8) (N := 18) (ref := "LiftFactorsModel") (v := .ref (adr 41)) hx hb hi hts inX8_u hown hw (by decide) rfl 7 (by decide) q_0 rfl rfl dX8_before_85 ?_
          refine lv_bipush (v := (24 : Int32)) hx hb dX8_before_88 (by decide) ?_
          refine lv_iload_n hx hb dX8_before_90 rfl (lv_at hl 2 rfl) ?_
          refine lv_imul hx hb dX8_before_91 ?_
          refine lv_iload_n hx hb dX8_before_92 rfl (lv_at hl 3 rfl) ?_
          refine lv_iadd hx hb dX8_before_93 ?_
          replace h := bnd h
          obtain ⟨v8, e8, h⟩ := h
          refine m_lald hx hb hi hw e8 dX8_before_94 ?_
          replace h := bnd h
          obtain ⟨v9, j10, h⟩ := h
          have kj : ∀ (ls : Array Slot) (H : Heap) (locs : List Loc), lv_has ls 4 [] → wH G A s.heap s (LL adr) (wf G adr M) H locs → W p l e { frames := 0, cells := 0, slots := 0, locals := 0 } s m args below meth c H locs 0 0 Q (F0 m 104 ls [.int v9]) := by
            intro ls H locs hl hw
            cases h
            exact k1 _ rfl _ _ _ _ dX8_before_104 BZ hw
          clear h
          replace h := j10
          clear j10
          refine m_lcmp_ge (tgt := 103) hx hb dX8_before_95 dX8_before_96 (by decide) (fun hc => ?_) (fun hc => ?_)
          · replace h := ite_t hc h
            refine lv_iconst (v := (0 : Int32)) hx hb dX8_before_103 (by decide) ?_
            cases h
            exact kj _ _ _ (lv_sub hl [] rfl) hw
          · replace h := ite_f hc h
            refine lv_iconst (v := (1 : Int32)) hx hb dX8_before_99 (by decide) ?_
            refine lv_goto (tgt := 104) hx hb dX8_before_100 (by decide) ?_
            cases h
            exact kj _ _ _ (lv_sub hl [] rfl) hw
    · clear hw hl j11
      rcases o12 with o9 | _
      · cases h
        exact kr
      · intro ls H locs hl hw
        (try dsimp only at h hl hw ⊢)
        refine lv_iconst (v := (0 : Int32)) hx hb dX8_before_111 (by decide) ?_
        cases h
        exact kr _ _ _ _ dX8_before_112 (by decide) hw
  · replace h := ite_f hc h
    refine lv_aload_n hx hb dX8_before_15 rfl (lv_at hl 0 rfl) ?_
    refine m_get (k := 36) (C := RX8) (T := TX8) (N := 18) (ref := "LiftFactorsModel") (v := .ref (adr 42)) hx hb hi hts inX8_u hown hw (by decide) rfl 8 (by decide) q_1 rfl rfl dX8_before_16 ?_
    refine lv_iload_n hx hb dX8_before_19 rfl (lv_at hl 1 rfl) ?_
    replace h := bnd h
    obtain ⟨v13, e13, h⟩ := h
    refine m_iald hx hb hi hw e13 dX8_before_20 ?_
    refine lv_aload_n hx hb dX8_before_21 rfl (lv_at hl 0 rfl) ?_
    refine m_get (k := 36) (C := RX8) (T := TX8) (N := 18) (ref := "LiftFactorsModel") (v := .ref (adr 42)) hx hb hi hts inX8_u hown hw (by decide) rfl 8 (by decide) q_1 rfl rfl dX8_before_22 ?_
    refine lv_iload_n hx hb dX8_before_25 rfl (lv_at hl 2 rfl) ?_
    replace h := bnd h
    obtain ⟨v14, e14, h⟩ := h
    refine m_iald hx hb hi hw e14 dX8_before_26 ?_
    replace h := bnd h
    obtain ⟨v15, j17, h⟩ := h
    have kj : ∀ (ls : Array Slot) (H : Heap) (locs : List Loc), lv_has ls 4 [] → wH G A s.heap s (LL adr) (wf G adr M) H locs → W p l e { frames := 0, cells := 0, slots := 0, locals := 0 } s m args below meth c H locs 0 0 Q (F0 m 35 ls [.int v15]) := by
      intro ls H locs hl hw
      replace h := bnd h
      obtain ⟨v16, e9, h⟩ := h
      obtain ⟨rfl, e9⟩ := bz_ok e9
      cases h
      exact kr _ _ _ _ dX8_before_35 e9 hw
    clear h
    replace h := j17
    clear j17
    refine lv_icmp_ge (tgt := 34) hx hb dX8_before_27 (by decide) (fun hc => ?_) (fun hc => ?_)
    · replace h := ite_t hc h
      refine lv_iconst (v := (0 : Int32)) hx hb dX8_before_34 (by decide) ?_
      cases h
      exact kj _ _ _ (lv_sub hl [] rfl) hw
    · replace h := ite_f hc h
      refine lv_iconst (v := (1 : Int32)) hx hb dX8_before_30 (by decide) ?_
      refine lv_goto (tgt := 35) hx hb dX8_before_31 (by decide) ?_
      cases h
      exact kj _ _ _ (lv_sub hl [] rfl) hw
theorem cc_X8_before {l : Launch} {G : gG} {adr : Nat → Nat} {sz : Nat} (hi : adi adr) {n : Nat} {a0 : Int32} {a1 : Int32} {M : Mem} {r : Int32} (h : f_X8_before n a0 a1 M = some r) : mI l yX8_before cX8_before 4 (some .boolean) { frames := 0, cells := 0, slots := 0, locals := 0 } G adr [.ref (adr 36), .int a0, .int a1] M sz r M := by
  refine wEnter (by decide) (Nat.le_of_ble_eq_true rfl) ?_
  intro p e s m below meth c ls cx hinit hl hsz hw
  exact b_X8_before cx hi h (fun pc ls H locs hd hz hw => w_zret (post := fun (r9 : Int32) (u : Mem) => r9 = r ∧ u = M) (lf := fun u => (LL adr, wf G adr u)) cx.1 cx.2.1 cx.2.2.1 cx.2.2.2.2.2.2 hz M hw ⟨rfl, rfl⟩ hd) hl hw
theorem q_156 : Cond.methodLink RX8 173 yX8_before ∈ uU := uU_in (by decide +kernel) (by decide +kernel)
theorem q_157 : Cond.instanceMethod yX8_before ∈ uU := uU_in (by decide +kernel) (by decide +kernel)
theorem q_158 : Cond.selects yX8_before.cls yX8_before yX8_before ∈ uU := uU_in (by decide +kernel) (by decide +kernel)
theorem q_159 : Cond.initialized yX8_before.cls ∈ uU := uU_in (by decide +kernel) (by decide +kernel)
theorem q_160 : Cond.code yX8_before cX8_before 4 (some .boolean) ∈ uU := uU_in (by decide +kernel) (by decide +kernel)
def l_X8_sort_12 (n : Nat) : Mem × Int32 → Option ((Mem) ⊕ (Mem × Int32)) := fun (M3, v4) =>
  if v4 ≤ 0 then
    some (.inl M3)
  else
    Option.bind (f_X8_before n ((40 : Int32) + v4) (((40 : Int32) + v4) - (1 : Int32)) M3) fun v5 =>
    if v5 = 0 then
      some (.inl M3)
    else
      Option.bind (f_X8_copy n ((40 : Int32) + v4) (11 : Int32) M3) fun v6 =>
      Option.bind (f_X8_copy n (((40 : Int32) + v4) - (1 : Int32)) ((40 : Int32) + v4) v6) fun v7 =>
      Option.bind (f_X8_copy n (11 : Int32) (((40 : Int32) + v4) - (1 : Int32)) v7) fun v8 =>
      some (.inr (v8, v4 + (-1)))
def l_X8_sort_2 (n : Nat) : Mem × Int32 → Option ((Mem) ⊕ (Mem × Int32)) := fun (M1, v2) =>
  if (M1.2 36 11) ≤ v2 then
    some (.inl M1)
  else
    Option.bind (lpF (l_X8_sort_12 n) n (M1, v2)) fun M10 =>
    some (.inr (M10, v2 + 1))
def f_X8_sort (n : Nat) (M : Mem) : Option Mem :=
  Option.bind (lpF (l_X8_sort_2 n) n (M, (1 : Int32))) fun M12 =>
  some M12
set_option maxRecDepth 100000 in
set_option maxHeartbeats 8000000 in
theorem b_X8_sort {p : Program} {l : Launch} {e : Env} {s : State} {m : MethodId} {args : Array Value} {below : List Frame} {meth : Method} {c : Code} {Q : State → Prop} {G : gG} {A : Nat → Prop} {adr : Nat → Nat} (cx : cX p s m args meth c cX8_sort none 3 yX8_sort.cls) (hi : adi adr) {n : Nat} {M M' : Mem} 
    (h : f_X8_sort n M = some M')
    (kr : ∀ (pc : Nat) (ls : Array Slot) (H : Heap) (locs : List Loc), decode cX8_sort pc = .ok (.return_, 1) → wH G A s.heap s (LL adr) (wf G adr M') H locs → W p l e { frames := 1, cells := 0, slots := 0, locals := 23 } s m args below meth c H locs 0 0 Q (F0 m pc ls []))
    {ls : Array Slot} {H : Heap} {locs : List Loc} (hl : lv_has ls 3 [(0, .ref (adr 36))]) (hw : wH G A s.heap s (LL adr) (wf G adr M) H locs) : W p l e { frames := 1, cells := 0, slots := 0, locals := 23 } s m args below meth c H locs 0 0 Q (F0 m 0 ls []) := by
  obtain ⟨hx, hb, -, -, hown, hts, -⟩ := id cx
  have hown : s.vm.findClass RX8 = some m.cls := hown
  unfold f_X8_sort at h
  refine lv_iconst (v := (1 : Int32)) hx hb dX8_sort_0 (by decide) ?_
  refine lv_istore_n (lv' := [(1, .int (1 : Int32)), (0, .ref (adr 36))]) hx hb dX8_sort_1 rfl hl (by decide) rfl (fun ls hl => ?_)
  replace h := bnd h
  obtain ⟨M12, j11, h⟩ := h
  refine lp_W (Wst := fun (st : Mem × Int32) => ∀ (ls : Array Slot) (H : Heap) (locs : List Loc), lv_has ls 3 [(0, .ref (adr 36)), (1, .int st.2)] → wH G A s.heap s (LL adr) (wf G adr st.1) H locs → W p l e { frames := 1, cells := 0, slots := 0, locals := 23 } s m args below meth c H locs 0 0 Q (F0 m 2 ls [])) (fin := fun (r : Mem) => ∀ (ls : Array Slot) (H : Heap) (locs : List Loc), lv_has ls 3 [] → wH G A s.heap s (LL adr) (wf G adr r) H locs → W p l e { frames := 1, cells := 0, slots := 0, locals := 23 } s m args below meth c H locs 0 0 Q (F0 m 81 ls [])) ?_ n _ _ j11 ?_ _ _ _ (lv_sub hl [1, 0] rfl) hw
  · clear h j11 hw hl
    intro ⟨M1, v2⟩ x h k1 k2 ls H locs hl hw
    (try dsimp only at k1 k2 hl hw ⊢)
    unfold l_X8_sort_2 at h
    (try dsimp only at h)
    refine lv_iload_n hx hb dX8_sort_2 rfl (lv_at hl 1 rfl) ?_
    refine lv_aload_n hx hb dX8_sort_3 rfl (lv_at hl 0 rfl) ?_
    refine m_get (k := 36) (C := RX8) (T := TX8) (N := 18) (ref := "LiftFactorsModel") (v := .int (M1.2 36 11)) hx hb hi hts inX8_u hown hw (by decide) rfl 11 (by decide) q_131 rfl rfl dX8_sort_4 ?_
    refine lv_icmp_ge (tgt := 81) hx hb dX8_sort_7 (by decide) (fun hc => ?_) (fun hc => ?_)
    · replace h := ite_t hc h
      cases h
      exact k1 _ rfl _ _ _ (lv_sub hl [] rfl) hw
    · replace h := ite_f hc h
      refine lv_iload_n hx hb dX8_sort_10 rfl (lv_at hl 1 rfl) ?_
      refine lv_istore_n (lv' := [(2, .int v2), (0, .ref (adr 36)), (1, .int v2)]) hx hb dX8_sort_11 rfl hl (by decide) rfl (fun ls hl => ?_)
      replace h := bnd h
      obtain ⟨M10, j9, h⟩ := h
      refine lp_W (Wst := fun (st : Mem × Int32) => ∀ (ls : Array Slot) (H : Heap) (locs : List Loc), lv_has ls 3 [(0, .ref (adr 36)), (1, .int v2), (2, .int st.2)] → wH G A s.heap s (LL adr) (wf G adr st.1) H locs → W p l e { frames := 1, cells := 0, slots := 0, locals := 23 } s m args below meth c H locs 0 0 Q (F0 m 12 ls [])) (fin := fun (r : Mem) => ∀ (ls : Array Slot) (H : Heap) (locs : List Loc), lv_has ls 3 [(0, .ref (adr 36)), (1, .int v2)] → wH G A s.heap s (LL adr) (wf G adr r) H locs → W p l e { frames := 1, cells := 0, slots := 0, locals := 23 } s m args below meth c H locs 0 0 Q (F0 m 75 ls [])) ?_ n _ _ j9 ?_ _ _ _ (lv_sub hl [1, 2, 0] rfl) hw
      · clear h j9 hw hl
        intro ⟨M3, v4⟩ x h k1 k2 ls H locs hl hw
        (try dsimp only at k1 k2 hl hw ⊢)
        unfold l_X8_sort_12 at h
        (try dsimp only at h)
        refine lv_iload_n hx hb dX8_sort_12 rfl (lv_at hl 2 rfl) ?_
        refine lv_if_le (tgt := 75) hx hb dX8_sort_13 (by decide) (fun hc => ?_) (fun hc => ?_)
        · replace h := ite_t hc h
          cases h
          exact k1 _ rfl _ _ _ (lv_sub hl [0, 1] rfl) hw
        · replace h := ite_f hc h
          refine lv_aload_n hx hb dX8_sort_16 rfl (lv_at hl 0 rfl) ?_
          refine lv_bipush (v := (40 : Int32)) hx hb dX8_sort_17 (by decide) ?_
          refine lv_iload_n hx hb dX8_sort_19 rfl (lv_at hl 2 rfl) ?_
          refine lv_iadd hx hb dX8_sort_20 ?_
          refine lv_bipush (v := (40 : Int32)) hx hb dX8_sort_21 (by decide) ?_
          refine lv_iload_n hx hb dX8_sort_23 rfl (lv_at hl 2 rfl) ?_
          refine lv_iadd hx hb dX8_sort_24 ?_
          refine lv_iconst (v := (1 : Int32)) hx hb dX8_sort_25 (by decide) ?_
          refine lv_isub hx hb dX8_sort_26 ?_
          replace h := bnd h
          obtain ⟨v5, e5, h⟩ := h
          refine m_callVi (k := 36) (As := [.int ((40 : Int32) + v4), .int (((40 : Int32) + v4) - (1 : Int32))]) (rest := []) cx.fix hi hw (cc_X8_before (l := l) (G := G) (sz := H.size) hi e5) (by decide) rfl rfl (w_cV 2 hts q_156 q_157 q_158 q_159 q_160 rfl rfl (by decide) (by decide)) hl.1 rfl (lv_room (Nat.le_of_ble_eq_true rfl)) dX8_sort_27 (fun H locs hw => ?_)
          refine lv_if_eq (tgt := 75) hx hb dX8_sort_30 (by decide) (fun hc => ?_) (fun hc => ?_)
          · replace h := ite_t hc h
            cases h
            exact k1 _ rfl _ _ _ (lv_sub hl [0, 1] rfl) hw
          · replace h := ite_f hc h
            refine lv_aload_n hx hb dX8_sort_33 rfl (lv_at hl 0 rfl) ?_
            refine lv_bipush (v := (40 : Int32)) hx hb dX8_sort_34 (by decide) ?_
            refine lv_iload_n hx hb dX8_sort_36 rfl (lv_at hl 2 rfl) ?_
            refine lv_iadd hx hb dX8_sort_37 ?_
            refine lv_bipush (v := (11 : Int32)) hx hb dX8_sort_38 (by decide) ?_
            replace h := bnd h
            obtain ⟨v6, e6, h⟩ := h
            refine m_callVv (k := 36) (As := [.int ((40 : Int32) + v4), .int (11 : Int32)]) (rest := []) cx.fix hi hw (cc_X8_copy (l := l) (G := G) (sz := H.size) hi e6) (by decide) rfl rfl (w_cV 2 hts q_24 q_25 q_26 q_27 q_28 rfl rfl (by decide) (by decide)) hl.1 rfl (lv_room (Nat.le_of_ble_eq_true rfl)) dX8_sort_40 (fun H locs hw => ?_)
            refine lv_aload_n hx hb dX8_sort_43 rfl (lv_at hl 0 rfl) ?_
            refine lv_bipush (v := (40 : Int32)) hx hb dX8_sort_44 (by decide) ?_
            refine lv_iload_n hx hb dX8_sort_46 rfl (lv_at hl 2 rfl) ?_
            refine lv_iadd hx hb dX8_sort_47 ?_
            refine lv_iconst (v := (1 : Int32)) hx hb dX8_sort_48 (by decide) ?_
            refine lv_isub hx hb dX8_sort_49 ?_
            refine lv_bipush (v := (40 : Int32)) hx hb dX8_sort_50 (by decide) ?_
            refine lv_iload_n hx hb dX8_sort_52 rfl (lv_at hl 2 rfl) ?_
            refine lv_iadd hx hb dX8_sort_53 ?_
            replace h := bnd h
            obtain ⟨v7, e7, h⟩ := h
            refine m_callVv (k := 36) (As := [.int (((40 : Int32) + v4) - (1 : Int32)), .int ((40 : Int32) + v4)]) (rest := []) cx.fix hi hw (cc_X8_copy (l := l) (G := G) (sz := H.size) hi e7) (by decide) rfl rfl (w_cV 2 hts q_24 q_25 q_26 q_27 q_28 rfl rfl (by decide) (by decide)) hl.1 rfl (lv_room (Nat.le_of_ble_eq_true rfl)) dX8_sort_54 (fun H locs hw => ?_)
            refine lv_aload_n hx hb dX8_sort_57 rfl (lv_at hl 0 rfl) ?_
            refine lv_bipush (v := (11 : Int32)) hx hb dX8_sort_58 (by decide) ?_
            refine lv_bipush (v := (40 : Int32)) hx hb dX8_sort_60 (by decide) ?_
            refine lv_iload_n hx hb dX8_sort_62 rfl (lv_at hl 2 rfl) ?_
            refine lv_iadd hx hb dX8_sort_63 ?_
            refine lv_iconst (v := (1 : Int32)) hx hb dX8_sort_64 (by decide) ?_
            refine lv_isub hx hb dX8_sort_65 ?_
            replace h := bnd h
            obtain ⟨v8, e8, h⟩ := h
            refine m_callVv (k := 36) (As := [.int (11 : Int32), .int (((40 : Int32) + v4) - (1 : Int32))]) (rest := []) cx.fix hi hw (cc_X8_copy (l := l) (G := G) (sz := H.size) hi e8) (by decide) rfl rfl (w_cV 2 hts q_24 q_25 q_26 q_27 q_28 rfl rfl (by decide) (by decide)) hl.1 rfl (lv_room (Nat.le_of_ble_eq_true rfl)) dX8_sort_66 (fun H locs hw => ?_)
            refine lv_iinc (v := v4 + (-1)) (lv' := [(2, .int (v4 + (-1))), (0, .ref (adr 36)), (1, .int v2)]) hx hb dX8_sort_69 hl (k := 2) rfl (inc_p _ (by decide)) (by decide) rfl (fun ls hl => ?_)
            refine lv_goto (tgt := 12) hx hb dX8_sort_72 (by decide) ?_
            cases h
            exact k2 _ rfl _ _ _ (lv_sub hl [1, 2, 0] rfl) hw
      · clear hw hl
        intro ls H locs hl hw
        (try dsimp only at hl hw ⊢)
        refine lv_iinc (v := v2 + 1) (lv' := [(1, .int (v2 + 1)), (0, .ref (adr 36))]) hx hb dX8_sort_75 hl (k := 1) rfl (inc_p _ (by decide)) (by decide) rfl (fun ls hl => ?_)
        refine lv_goto (tgt := 2) hx hb dX8_sort_78 (by decide) ?_
        cases h
        exact k2 _ rfl _ _ _ (lv_sub hl [1, 0] rfl) hw
  · clear hw hl
    intro ls H locs hl hw
    (try dsimp only at hl hw ⊢)
    cases h
    exact kr _ _ _ _ dX8_sort_81 hw
theorem cc_X8_sort {l : Launch} {G : gG} {adr : Nat → Nat} {sz : Nat} (hi : adi adr) {n : Nat} {M M' : Mem} (h : f_X8_sort n M = some M') : mV l yX8_sort cX8_sort 3 none { frames := 1, cells := 0, slots := 0, locals := 23 } G adr [.ref (adr 36)] M sz M' := by
  refine wEnter (by decide) (Nat.le_of_ble_eq_true rfl) ?_
  intro p e s m below meth c ls cx hinit hl hsz hw
  exact b_X8_sort cx hi h (fun pc ls H locs hd hw => w_vret (post := fun (u : Mem) => u = M') (lf := fun u => (LL adr, wf G adr u)) cx.1 cx.2.1 cx.2.2.1 cx.2.2.2.2.2.2 M' hw rfl hd) hl hw
theorem q_161 : Cond.methodLink RX8 177 yX8_commonWhole ∈ uU := uU_in (by decide +kernel) (by decide +kernel)
theorem q_162 : Cond.instanceMethod yX8_commonWhole ∈ uU := uU_in (by decide +kernel) (by decide +kernel)
theorem q_163 : Cond.selects yX8_commonWhole.cls yX8_commonWhole yX8_commonWhole ∈ uU := uU_in (by decide +kernel) (by decide +kernel)
theorem q_164 : Cond.initialized yX8_commonWhole.cls ∈ uU := uU_in (by decide +kernel) (by decide +kernel)
theorem q_165 : Cond.code yX8_commonWhole cX8_commonWhole 8 none ∈ uU := uU_in (by decide +kernel) (by decide +kernel)
def f_X8_squareFreePart (n : Nat) (M : Mem) : Option Mem :=
  Option.bind (f_X8_derive n (0 : Int32) (2 : Int32) M) fun v1 =>
  Option.bind (f_X8_commonWhole n (0 : Int32) (2 : Int32) (11 : Int32) v1) fun v2 =>
  Option.bind (f_X8_divides n (11 : Int32) (0 : Int32) (20000000 : Int64) v2) fun (v3, M4) =>
  Option.bind (f_X8_copy n (3 : Int32) (1 : Int32) M4) fun v5 =>
  Option.bind (f_X8_primitive n (1 : Int32) v5) fun (v6, M7) =>
  some M7
set_option maxRecDepth 100000 in
set_option maxHeartbeats 8000000 in
theorem b_X8_squareFreePart {p : Program} {l : Launch} {e : Env} {s : State} {m : MethodId} {args : Array Value} {below : List Frame} {meth : Method} {c : Code} {Q : State → Prop} {G : gG} {A : Nat → Prop} {adr : Nat → Nat} (cx : cX p s m args meth c cX8_squareFreePart none 1 yX8_squareFreePart.cls) (hi : adi adr) {n : Nat} {M M' : Mem} 
    (h : f_X8_squareFreePart n M = some M')
    (kr : ∀ (pc : Nat) (ls : Array Slot) (H : Heap) (locs : List Loc), decode cX8_squareFreePart pc = .ok (.return_, 1) → wH G A s.heap s (LL adr) (wf G adr M') H locs → W p l e { frames := 5, cells := 0, slots := 0, locals := 133 } s m args below meth c H locs 0 0 Q (F0 m pc ls []))
    {ls : Array Slot} {H : Heap} {locs : List Loc} (hl : lv_has ls 1 [(0, .ref (adr 36))]) (hw : wH G A s.heap s (LL adr) (wf G adr M) H locs) : W p l e { frames := 5, cells := 0, slots := 0, locals := 133 } s m args below meth c H locs 0 0 Q (F0 m 0 ls []) := by
  obtain ⟨hx, hb, -, -, hown, hts, -⟩ := id cx
  have hown : s.vm.findClass RX8 = some m.cls := hown
  unfold f_X8_squareFreePart at h
  refine lv_aload_n hx hb dX8_squareFreePart_0 rfl (lv_at hl 0 rfl) ?_
  refine lv_iconst (v := (0 : Int32)) hx hb dX8_squareFreePart_1 (by decide) ?_
  refine lv_iconst (v := (2 : Int32)) hx hb dX8_squareFreePart_2 (by decide) ?_
  replace h := bnd h
  obtain ⟨v1, e1, h⟩ := h
  refine m_callVv (k := 36) (As := [.int (0 : Int32), .int (2 : Int32)]) (rest := []) cx.fix hi hw (cc_X8_derive (l := l) (G := G) (sz := H.size) hi e1) (by decide) rfl rfl (w_cV 2 hts q_132 q_133 q_134 q_135 q_136 rfl rfl (by decide) (by decide)) hl.1 rfl (lv_room (Nat.le_of_ble_eq_true rfl)) dX8_squareFreePart_3 (fun H locs hw => ?_)
  refine lv_aload_n hx hb dX8_squareFreePart_6 rfl (lv_at hl 0 rfl) ?_
  refine lv_iconst (v := (0 : Int32)) hx hb dX8_squareFreePart_7 (by decide) ?_
  refine lv_iconst (v := (2 : Int32)) hx hb dX8_squareFreePart_8 (by decide) ?_
  refine lv_bipush (v := (11 : Int32)) hx hb dX8_squareFreePart_9 (by decide) ?_
  replace h := bnd h
  obtain ⟨v2, e2, h⟩ := h
  refine m_callVv (k := 36) (As := [.int (0 : Int32), .int (2 : Int32), .int (11 : Int32)]) (rest := []) cx.fix hi hw (cc_X8_commonWhole (l := l) (G := G) (sz := H.size) hi e2) (by decide) rfl rfl (w_cV 3 hts q_161 q_162 q_163 q_164 q_165 rfl rfl (by decide) (by decide)) hl.1 rfl (lv_room (Nat.le_of_ble_eq_true rfl)) dX8_squareFreePart_11 (fun H locs hw => ?_)
  refine lv_aload_n hx hb dX8_squareFreePart_14 rfl (lv_at hl 0 rfl) ?_
  refine lv_bipush (v := (11 : Int32)) hx hb dX8_squareFreePart_15 (by decide) ?_
  refine lv_iconst (v := (0 : Int32)) hx hb dX8_squareFreePart_17 (by decide) ?_
  refine lv_ldc2 (v := (20000000 : Int64)) hx hb hown (hts _ q_23) dX8_squareFreePart_18 ?_
  replace h := bnd h
  obtain ⟨⟨v3, M4⟩, e3, h⟩ := h
  refine m_callVi (k := 36) (As := [.int (11 : Int32), .int (0 : Int32), .long (20000000 : Int64)]) (rest := []) cx.fix hi hw (cc_X8_divides (l := l) (G := G) (sz := H.size) hi e3) (by decide) rfl rfl (w_cV 3 hts q_90 q_91 q_92 q_93 q_94 rfl rfl (by decide) (by decide)) hl.1 rfl (lv_room (Nat.le_of_ble_eq_true rfl)) dX8_squareFreePart_21 (fun H locs hw => ?_)
  refine lv_pop hx hb dX8_squareFreePart_24 rfl ?_
  refine lv_aload_n hx hb dX8_squareFreePart_25 rfl (lv_at hl 0 rfl) ?_
  refine lv_iconst (v := (3 : Int32)) hx hb dX8_squareFreePart_26 (by decide) ?_
  refine lv_iconst (v := (1 : Int32)) hx hb dX8_squareFreePart_27 (by decide) ?_
  replace h := bnd h
  obtain ⟨v5, e5, h⟩ := h
  refine m_callVv (k := 36) (As := [.int (3 : Int32), .int (1 : Int32)]) (rest := []) cx.fix hi hw (cc_X8_copy (l := l) (G := G) (sz := H.size) hi e5) (by decide) rfl rfl (w_cV 2 hts q_24 q_25 q_26 q_27 q_28 rfl rfl (by decide) (by decide)) hl.1 rfl (lv_room (Nat.le_of_ble_eq_true rfl)) dX8_squareFreePart_28 (fun H locs hw => ?_)
  refine lv_aload_n hx hb dX8_squareFreePart_31 rfl (lv_at hl 0 rfl) ?_
  refine lv_iconst (v := (1 : Int32)) hx hb dX8_squareFreePart_32 (by decide) ?_
  replace h := bnd h
  obtain ⟨⟨v6, M7⟩, e6, h⟩ := h
  refine m_callVl (k := 36) (As := [.int (1 : Int32)]) (rest := []) cx.fix hi hw (cc_X8_primitive (l := l) (G := G) (sz := H.size) hi e6) (by decide) rfl rfl (w_cV 1 hts q_64 q_65 q_66 q_67 q_68 rfl rfl (by decide) (by decide)) hl.1 rfl (lv_room (Nat.le_of_ble_eq_true rfl)) dX8_squareFreePart_33 (fun H locs hw => ?_)
  refine lv_pop2_2 hx hb dX8_squareFreePart_36 rfl ?_
  cases h
  exact kr _ _ _ _ dX8_squareFreePart_37 hw
theorem cc_X8_squareFreePart {l : Launch} {G : gG} {adr : Nat → Nat} {sz : Nat} (hi : adi adr) {n : Nat} {M M' : Mem} (h : f_X8_squareFreePart n M = some M') : mV l yX8_squareFreePart cX8_squareFreePart 1 none { frames := 5, cells := 0, slots := 0, locals := 133 } G adr [.ref (adr 36)] M sz M' := by
  refine wEnter (by decide) (Nat.le_of_ble_eq_true rfl) ?_
  intro p e s m below meth c ls cx hinit hl hsz hw
  exact b_X8_squareFreePart cx hi h (fun pc ls H locs hd hw => w_vret (post := fun (u : Mem) => u = M') (lf := fun u => (LL adr, wf G adr u)) cx.1 cx.2.1 cx.2.2.1 cx.2.2.2.2.2.2 M' hw rfl hd) hl hw
theorem q_166 : Cond.fieldLink RX8 29 "LiftFactorsModel" "foundOften" "[I" ∈ uU := uU_in (by decide +kernel) (by decide +kernel)
def l_X8_countOften_17 (n : Nat) (v2 : Int32) : Mem → Option ((Mem) ⊕ (Mem)) := fun M4 =>
  Option.bind (f_X8_divides n ((40 : Int32) + v2) (0 : Int32) (20000000 : Int64) M4) fun (v5, M6) =>
  if v5 = 0 then
    some (.inl M6)
  else
    Option.bind (ldI M6 43 v2) fun v7 =>
    Option.bind (stI M6 43 v2 (v7 + (1 : Int32))) fun v8 =>
    Option.bind (f_X8_copy n (3 : Int32) (0 : Int32) v8) fun v9 =>
    some (.inr v9)
def l_X8_countOften_2 (n : Nat) : Mem × Int32 → Option ((Mem) ⊕ (Mem × Int32)) := fun (M1, v2) =>
  if (M1.2 36 11) ≤ v2 then
    some (.inl M1)
  else
    Option.bind (stI M1 43 v2 (0 : Int32)) fun v3 =>
    Option.bind (lpF (l_X8_countOften_17 n v2) n v3) fun M11 =>
    some (.inr (M11, v2 + 1))
def f_X8_countOften (n : Nat) (M : Mem) : Option Mem :=
  Option.bind (lpF (l_X8_countOften_2 n) n (M, (0 : Int32))) fun M13 =>
  some M13
set_option maxRecDepth 100000 in
set_option maxHeartbeats 8000000 in
theorem b_X8_countOften {p : Program} {l : Launch} {e : Env} {s : State} {m : MethodId} {args : Array Value} {below : List Frame} {meth : Method} {c : Code} {Q : State → Prop} {G : gG} {A : Nat → Prop} {adr : Nat → Nat} (cx : cX p s m args meth c cX8_countOften none 2 yX8_countOften.cls) (hi : adi adr) {n : Nat} {M M' : Mem} 
    (h : f_X8_countOften n M = some M')
    (kr : ∀ (pc : Nat) (ls : Array Slot) (H : Heap) (locs : List Loc), decode cX8_countOften pc = .ok (.return_, 1) → wH G A s.heap s (LL adr) (wf G adr M') H locs → W p l e { frames := 2, cells := 0, slots := 0, locals := 56 } s m args below meth c H locs 0 0 Q (F0 m pc ls []))
    {ls : Array Slot} {H : Heap} {locs : List Loc} (hl : lv_has ls 2 [(0, .ref (adr 36))]) (hw : wH G A s.heap s (LL adr) (wf G adr M) H locs) : W p l e { frames := 2, cells := 0, slots := 0, locals := 56 } s m args below meth c H locs 0 0 Q (F0 m 0 ls []) := by
  obtain ⟨hx, hb, -, -, hown, hts, -⟩ := id cx
  have hown : s.vm.findClass RX8 = some m.cls := hown
  unfold f_X8_countOften at h
  refine lv_iconst (v := (0 : Int32)) hx hb dX8_countOften_0 (by decide) ?_
  refine lv_istore_n (lv' := [(1, .int (0 : Int32)), (0, .ref (adr 36))]) hx hb dX8_countOften_1 rfl hl (by decide) rfl (fun ls hl => ?_)
  replace h := bnd h
  obtain ⟨M13, j12, h⟩ := h
  refine lp_W (Wst := fun (st : Mem × Int32) => ∀ (ls : Array Slot) (H : Heap) (locs : List Loc), lv_has ls 2 [(0, .ref (adr 36)), (1, .int st.2)] → wH G A s.heap s (LL adr) (wf G adr st.1) H locs → W p l e { frames := 2, cells := 0, slots := 0, locals := 56 } s m args below meth c H locs 0 0 Q (F0 m 2 ls [])) (fin := fun (r : Mem) => ∀ (ls : Array Slot) (H : Heap) (locs : List Loc), lv_has ls 2 [] → wH G A s.heap s (LL adr) (wf G adr r) H locs → W p l e { frames := 2, cells := 0, slots := 0, locals := 56 } s m args below meth c H locs 0 0 Q (F0 m 57 ls [])) ?_ n _ _ j12 ?_ _ _ _ (lv_sub hl [1, 0] rfl) hw
  · clear h j12 hw hl
    intro ⟨M1, v2⟩ x h k1 k2 ls H locs hl hw
    (try dsimp only at k1 k2 hl hw ⊢)
    unfold l_X8_countOften_2 at h
    (try dsimp only at h)
    refine lv_iload_n hx hb dX8_countOften_2 rfl (lv_at hl 1 rfl) ?_
    refine lv_aload_n hx hb dX8_countOften_3 rfl (lv_at hl 0 rfl) ?_
    refine m_get (k := 36) (C := RX8) (T := TX8) (N := 18) (ref := "LiftFactorsModel") (v := .int (M1.2 36 11)) hx hb hi hts inX8_u hown hw (by decide) rfl 11 (by decide) q_131 rfl rfl dX8_countOften_4 ?_
    refine lv_icmp_ge (tgt := 57) hx hb dX8_countOften_7 (by decide) (fun hc => ?_) (fun hc => ?_)
    · replace h := ite_t hc h
      cases h
      exact k1 _ rfl _ _ _ (lv_sub hl [] rfl) hw
    · replace h := ite_f hc h
      refine lv_aload_n hx hb dX8_countOften_10 rfl (lv_at hl 0 rfl) ?_
      refine m_get (k := 36) (C := RX8) (T := TX8) (N := 18) (ref := "LiftFactorsModel") (v := .ref (adr 43)) hx hb hi hts inX8_u hown hw (by decide) rfl 12 (by decide) q_166 rfl rfl dX8_countOften_11 ?_
      refine lv_iload_n hx hb dX8_countOften_14 rfl (lv_at hl 1 rfl) ?_
      refine lv_iconst (v := (0 : Int32)) hx hb dX8_countOften_15 (by decide) ?_
      replace h := bnd h
      obtain ⟨v3, e3, h⟩ := h
      refine m_iast hx hb hi hw e3 dX8_countOften_16 (fun H locs hw => ?_)
      replace h := bnd h
      obtain ⟨M11, j10, h⟩ := h
      refine lp_W (Wst := fun (st : Mem) => ∀ (ls : Array Slot) (H : Heap) (locs : List Loc), lv_has ls 2 [(0, .ref (adr 36)), (1, .int v2)] → wH G A s.heap s (LL adr) (wf G adr st) H locs → W p l e { frames := 2, cells := 0, slots := 0, locals := 56 } s m args below meth c H locs 0 0 Q (F0 m 17 ls [])) (fin := fun (r : Mem) => ∀ (ls : Array Slot) (H : Heap) (locs : List Loc), lv_has ls 2 [(0, .ref (adr 36)), (1, .int v2)] → wH G A s.heap s (LL adr) (wf G adr r) H locs → W p l e { frames := 2, cells := 0, slots := 0, locals := 56 } s m args below meth c H locs 0 0 Q (F0 m 51 ls [])) ?_ n _ _ j10 ?_ _ _ _ (lv_sub hl [0, 1] rfl) hw
      · clear h j10 hw hl
        intro M4 x h k1 k2 ls H locs hl hw
        (try dsimp only at k1 k2 hl hw ⊢)
        unfold l_X8_countOften_17 at h
        (try dsimp only at h)
        refine lv_aload_n hx hb dX8_countOften_17 rfl (lv_at hl 0 rfl) ?_
        refine lv_bipush (v := (40 : Int32)) hx hb dX8_countOften_18 (by decide) ?_
        refine lv_iload_n hx hb dX8_countOften_20 rfl (lv_at hl 1 rfl) ?_
        refine lv_iadd hx hb dX8_countOften_21 ?_
        refine lv_iconst (v := (0 : Int32)) hx hb dX8_countOften_22 (by decide) ?_
        refine lv_ldc2 (v := (20000000 : Int64)) hx hb hown (hts _ q_23) dX8_countOften_23 ?_
        replace h := bnd h
        obtain ⟨⟨v5, M6⟩, e5, h⟩ := h
        refine m_callVi (k := 36) (As := [.int ((40 : Int32) + v2), .int (0 : Int32), .long (20000000 : Int64)]) (rest := []) cx.fix hi hw (cc_X8_divides (l := l) (G := G) (sz := H.size) hi e5) (by decide) rfl rfl (w_cV 3 hts q_90 q_91 q_92 q_93 q_94 rfl rfl (by decide) (by decide)) hl.1 rfl (lv_room (Nat.le_of_ble_eq_true rfl)) dX8_countOften_26 (fun H locs hw => ?_)
        refine lv_if_eq (tgt := 51) hx hb dX8_countOften_29 (by decide) (fun hc => ?_) (fun hc => ?_)
        · replace h := ite_t hc h
          cases h
          exact k1 _ rfl _ _ _ (lv_sub hl [0, 1] rfl) hw
        · replace h := ite_f hc h
          refine lv_aload_n hx hb dX8_countOften_32 rfl (lv_at hl 0 rfl) ?_
          refine m_get (k := 36) (C := RX8) (T := TX8) (N := 18) (ref := "LiftFactorsModel") (v := .ref (adr 43)) hx hb hi hts inX8_u hown hw (by decide) rfl 12 (by decide) q_166 rfl rfl dX8_countOften_33 ?_
          refine lv_iload_n hx hb dX8_countOften_36 rfl (lv_at hl 1 rfl) ?_
          refine lv_dup2_11 hx hb dX8_countOften_37 rfl rfl ?_
          replace h := bnd h
          obtain ⟨v7, e7, h⟩ := h
          refine m_iald hx hb hi hw e7 dX8_countOften_38 ?_
          refine lv_iconst (v := (1 : Int32)) hx hb dX8_countOften_39 (by decide) ?_
          refine lv_iadd hx hb dX8_countOften_40 ?_
          replace h := bnd h
          obtain ⟨v8, e8, h⟩ := h
          refine m_iast hx hb hi hw e8 dX8_countOften_41 (fun H locs hw => ?_)
          refine lv_aload_n hx hb dX8_countOften_42 rfl (lv_at hl 0 rfl) ?_
          refine lv_iconst (v := (3 : Int32)) hx hb dX8_countOften_43 (by decide) ?_
          refine lv_iconst (v := (0 : Int32)) hx hb dX8_countOften_44 (by decide) ?_
          replace h := bnd h
          obtain ⟨v9, e9, h⟩ := h
          refine m_callVv (k := 36) (As := [.int (3 : Int32), .int (0 : Int32)]) (rest := []) cx.fix hi hw (cc_X8_copy (l := l) (G := G) (sz := H.size) hi e9) (by decide) rfl rfl (w_cV 2 hts q_24 q_25 q_26 q_27 q_28 rfl rfl (by decide) (by decide)) hl.1 rfl (lv_room (Nat.le_of_ble_eq_true rfl)) dX8_countOften_45 (fun H locs hw => ?_)
          refine lv_goto (tgt := 17) hx hb dX8_countOften_48 (by decide) ?_
          cases h
          exact k2 _ rfl _ _ _ (lv_sub hl [0, 1] rfl) hw
      · clear hw hl
        intro ls H locs hl hw
        (try dsimp only at hl hw ⊢)
        refine lv_iinc (v := v2 + 1) (lv' := [(1, .int (v2 + 1)), (0, .ref (adr 36))]) hx hb dX8_countOften_51 hl (k := 1) rfl (inc_p _ (by decide)) (by decide) rfl (fun ls hl => ?_)
        refine lv_goto (tgt := 2) hx hb dX8_countOften_54 (by decide) ?_
        cases h
        exact k2 _ rfl _ _ _ (lv_sub hl [1, 0] rfl) hw
  · clear hw hl
    intro ls H locs hl hw
    (try dsimp only at hl hw ⊢)
    cases h
    exact kr _ _ _ _ dX8_countOften_57 hw
theorem cc_X8_countOften {l : Launch} {G : gG} {adr : Nat → Nat} {sz : Nat} (hi : adi adr) {n : Nat} {M M' : Mem} (h : f_X8_countOften n M = some M') : mV l yX8_countOften cX8_countOften 2 none { frames := 2, cells := 0, slots := 0, locals := 56 } G adr [.ref (adr 36)] M sz M' := by
  refine wEnter (by decide) (Nat.le_of_ble_eq_true rfl) ?_
  intro p e s m below meth c ls cx hinit hl hsz hw
  exact b_X8_countOften cx hi h (fun pc ls H locs hd hw => w_vret (post := fun (u : Mem) => u = M') (lf := fun u => (LL adr, wf G adr u)) cx.1 cx.2.1 cx.2.2.1 cx.2.2.2.2.2.2 M' hw rfl hd) hl hw
theorem q_167 : Cond.methodLink RX8 180 yX8_isPoly ∈ uU := uU_in (by decide +kernel) (by decide +kernel)
theorem q_168 : Cond.static yX8_isPoly ∈ uU := uU_in (by decide +kernel) (by decide +kernel)
theorem q_169 : Cond.initialized yX8_isPoly.cls ∈ uU := uU_in (by decide +kernel) (by decide +kernel)
theorem q_170 : Cond.code yX8_isPoly cX8_isPoly 1 (some .boolean) ∈ uU := uU_in (by decide +kernel) (by decide +kernel)
theorem q_171 : Cond.fieldLink RX8 45 "LiftFactorsModel" "thrown" "I" ∈ uU := uU_in (by decide +kernel) (by decide +kernel)
theorem q_172 : Cond.methodLink RX8 184 yX8_load ∈ uU := uU_in (by decide +kernel) (by decide +kernel)
theorem q_173 : Cond.instanceMethod yX8_load ∈ uU := uU_in (by decide +kernel) (by decide +kernel)
theorem q_174 : Cond.selects yX8_load.cls yX8_load yX8_load ∈ uU := uU_in (by decide +kernel) (by decide +kernel)
theorem q_175 : Cond.initialized yX8_load.cls ∈ uU := uU_in (by decide +kernel) (by decide +kernel)
theorem q_176 : Cond.code yX8_load cX8_load 4 none ∈ uU := uU_in (by decide +kernel) (by decide +kernel)
theorem q_177 : Cond.methodLink RX8 187 yX8_squareFreePart ∈ uU := uU_in (by decide +kernel) (by decide +kernel)
theorem q_178 : Cond.instanceMethod yX8_squareFreePart ∈ uU := uU_in (by decide +kernel) (by decide +kernel)
theorem q_179 : Cond.selects yX8_squareFreePart.cls yX8_squareFreePart yX8_squareFreePart ∈ uU := uU_in (by decide +kernel) (by decide +kernel)
theorem q_180 : Cond.initialized yX8_squareFreePart.cls ∈ uU := uU_in (by decide +kernel) (by decide +kernel)
theorem q_181 : Cond.code yX8_squareFreePart cX8_squareFreePart 1 none ∈ uU := uU_in (by decide +kernel) (by decide +kernel)
theorem q_182 : Cond.methodLink RX8 190 yX8_factorWhole ∈ uU := uU_in (by decide +kernel) (by decide +kernel)
theorem q_183 : Cond.instanceMethod yX8_factorWhole ∈ uU := uU_in (by decide +kernel) (by decide +kernel)
theorem q_184 : Cond.selects yX8_factorWhole.cls yX8_factorWhole yX8_factorWhole ∈ uU := uU_in (by decide +kernel) (by decide +kernel)
theorem q_185 : Cond.initialized yX8_factorWhole.cls ∈ uU := uU_in (by decide +kernel) (by decide +kernel)
theorem q_186 : Cond.code yX8_factorWhole cX8_factorWhole 6 none ∈ uU := uU_in (by decide +kernel) (by decide +kernel)
theorem q_187 : Cond.methodLink RX8 193 yX8_sort ∈ uU := uU_in (by decide +kernel) (by decide +kernel)
theorem q_188 : Cond.instanceMethod yX8_sort ∈ uU := uU_in (by decide +kernel) (by decide +kernel)
theorem q_189 : Cond.selects yX8_sort.cls yX8_sort yX8_sort ∈ uU := uU_in (by decide +kernel) (by decide +kernel)
theorem q_190 : Cond.initialized yX8_sort.cls ∈ uU := uU_in (by decide +kernel) (by decide +kernel)
theorem q_191 : Cond.code yX8_sort cX8_sort 3 none ∈ uU := uU_in (by decide +kernel) (by decide +kernel)
theorem q_192 : Cond.methodLink RX8 196 yX8_countOften ∈ uU := uU_in (by decide +kernel) (by decide +kernel)
theorem q_193 : Cond.instanceMethod yX8_countOften ∈ uU := uU_in (by decide +kernel) (by decide +kernel)
theorem q_194 : Cond.selects yX8_countOften.cls yX8_countOften yX8_countOften ∈ uU := uU_in (by decide +kernel) (by decide +kernel)
theorem q_195 : Cond.initialized yX8_countOften.cls ∈ uU := uU_in (by decide +kernel) (by decide +kernel)
theorem q_196 : Cond.code yX8_countOften cX8_countOften 2 none ∈ uU := uU_in (by decide +kernel) (by decide +kernel)
theorem q_197 : Cond.methodLink RX8 199 yX8_great ∈ uU := uU_in (by decide +kernel) (by decide +kernel)
theorem q_198 : Cond.instanceMethod yX8_great ∈ uU := uU_in (by decide +kernel) (by decide +kernel)
theorem q_199 : Cond.selects yX8_great.cls yX8_great yX8_great ∈ uU := uU_in (by decide +kernel) (by decide +kernel)
theorem q_200 : Cond.initialized yX8_great.cls ∈ uU := uU_in (by decide +kernel) (by decide +kernel)
theorem q_201 : Cond.code yX8_great cX8_great 3 (some .boolean) ∈ uU := uU_in (by decide +kernel) (by decide +kernel)
theorem q_202 : Cond.fieldLink RX8 202 "LiftFactorsModel" "factors" "I" ∈ uU := uU_in (by decide +kernel) (by decide +kernel)
theorem q_203 : Cond.fieldLink RX8 16 "LiftFactorsModel" "factorNumber" "[I" ∈ uU := uU_in (by decide +kernel) (by decide +kernel)
theorem q_204 : Cond.methodLink RX8 205 yX8_store ∈ uU := uU_in (by decide +kernel) (by decide +kernel)
theorem q_205 : Cond.instanceMethod yX8_store ∈ uU := uU_in (by decide +kernel) (by decide +kernel)
theorem q_206 : Cond.selects yX8_store.cls yX8_store yX8_store ∈ uU := uU_in (by decide +kernel) (by decide +kernel)
theorem q_207 : Cond.initialized yX8_store.cls ∈ uU := uU_in (by decide +kernel) (by decide +kernel)
theorem q_208 : Cond.code yX8_store cX8_store 3 (some .int) ∈ uU := uU_in (by decide +kernel) (by decide +kernel)
theorem q_209 : Cond.fieldLink RX8 19 "LiftFactorsModel" "multiplicity" "[I" ∈ uU := uU_in (by decide +kernel) (by decide +kernel)
def l_X8_run_110 (n : Nat) (M15 : Mem) : Int32 → Option (((Int32 × Mem) ⊕ (Unit)) ⊕ (Int32)) := fun v16 =>
  if (M15.2 36 11) ≤ v16 then
    some (.inl (.inr ()))
  else
    Option.bind (f_X8_great n ((40 : Int32) + v16) M15) fun v17 =>
    if v17 = 0 then
      some (.inr (v16 + 1))
    else
      some (.inl (.inl ((-2 : Int32), M15)))
def l_X8_run_148 (n : Nat) : Mem × Int32 → Option ((Mem) ⊕ (Mem × Int32)) := fun (M20, v21) =>
  if (M20.2 36 11) ≤ v21 then
    some (.inl M20)
  else
    Option.bind (f_X8_store n ((40 : Int32) + v21) M20) fun (v22, M23) =>
    Option.bind (stI M23 39 v21 v22) fun v24 =>
    Option.bind (ldI v24 43 v21) fun v25 =>
    Option.bind (stI v24 40 v21 v25) fun v26 =>
    some (.inr (v26, v21 + 1))
def f_X8_run (n : Nat) (a0 : Int32) (M : Mem) : Option (Int32 × Mem) :=
  Option.bind (f_X8_isPoly a0) fun v1 =>
  Option.bind (
    if v1 = 0 then
      some (1 : Int32)
    else
      some (0 : Int32)) fun v2 =>
  Option.bind (ptI M 36 3 v2) fun v3 =>
  if (v3.2 36 3) = 0 then
    Option.bind (f_X8_load n a0 (0 : Int32) v3) fun v4 =>
    Option.bind (ldI v4 42 (0 : Int32)) fun v5 =>
    if 0 ≤ v5 then
      Option.bind (
        if v5 ≤ 0 then
          some (0 : Int32)
        else
          if v5 ≤ ((80 : Int32) - (v4.2 36 2)) then
            some (0 : Int32)
          else
            some (2 : Int32)) fun v6 =>
      Option.bind (ptI v4 36 3 v6) fun v7 =>
      if (v7.2 36 3) = 0 then
        Option.bind (ptI v7 36 11 (0 : Int32)) fun v8 =>
        Option.bind (
          if v5 ≤ 0 then
            some v8
          else
            Option.bind (f_X8_primitive n (0 : Int32) v8) fun (v9, M10) =>
            Option.bind (f_X8_squareFreePart n M10) fun v11 =>
            Option.bind (f_X8_factorWhole n v11) fun v12 =>
            Option.bind (f_X8_sort n v12) fun v13 =>
            Option.bind (f_X8_countOften n v13) fun v14 =>
            some v14) fun M15 =>
        Option.bind (lpF (l_X8_run_110 n M15) n (0 : Int32)) fun r => match r with
        | .inl o => some o
        | .inr () =>
          Option.bind (ptI M15 36 4 (M15.2 36 11)) fun v19 =>
          Option.bind (lpF (l_X8_run_148 n) n (v19, (0 : Int32))) fun M28 =>
          some (M28.2 36 11, M28)
      else
        some ((0 : Int32), v7)
    else
      some ((-1 : Int32), v4)
  else
    some ((0 : Int32), v3)
set_option maxRecDepth 100000 in
set_option maxHeartbeats 8000000 in
theorem b_X8_run {p : Program} {l : Launch} {e : Env} {s : State} {m : MethodId} {args : Array Value} {below : List Frame} {meth : Method} {c : Code} {Q : State → Prop} {G : gG} {A : Nat → Prop} {adr : Nat → Nat} (cx : cX p s m args meth c cX8_run (some .int) 4 yX8_run.cls) (hi : adi adr) {n : Nat} {a0 : Int32} {M M' : Mem} {r : Int32} 
    (h : f_X8_run n a0 M = some (r, M'))
    (kr : ∀ (pc : Nat) (ls : Array Slot) (H : Heap) (locs : List Loc), decode cX8_run pc = .ok (.ireturn, 1) → wH G A s.heap s (LL adr) (wf G adr M') H locs → W p l e { frames := 8, cells := 0, slots := 0, locals := 208 } s m args below meth c H locs 0 0 Q (F0 m pc ls [.int r]))
    {ls : Array Slot} {H : Heap} {locs : List Loc} (hl : lv_has ls 4 [(0, .ref (adr 36)), (1, .int a0)]) (hw : wH G A s.heap s (LL adr) (wf G adr M) H locs) : W p l e { frames := 8, cells := 0, slots := 0, locals := 208 } s m args below meth c H locs 0 0 Q (F0 m 0 ls []) := by
  obtain ⟨hx, hb, -, -, hown, hts, -⟩ := id cx
  have hown : s.vm.findClass RX8 = some m.cls := hown
  unfold f_X8_run at h
  refine lv_aload_n hx hb dX8_run_0 rfl (lv_at hl 0 rfl) ?_
  refine lv_iload_n hx hb dX8_run_1 rfl (lv_at hl 1 rfl) ?_
  replace h := bnd h
  obtain ⟨v1, e1, h⟩ := h
  refine m_callSi (As := [.int a0]) (rest := [.ref (adr 36)]) cx.fix hw (cc_X8_isPoly (l := l) (G := G) (sz := H.size) (M := M) hi e1) (w_cS 1 hts q_167 q_168 q_169 q_170 rfl rfl (by decide) (by decide)) hl.1 rfl (lv_room (Nat.le_of_ble_eq_true rfl)) dX8_run_2 (fun H locs hw => ?_)
  replace h := bnd h
  obtain ⟨v2, j32, h⟩ := h
  have kj : ∀ (ls : Array Slot) (H : Heap) (locs : List Loc), lv_has ls 4 [(0, .ref (adr 36)), (1, .int a0)] → wH G A s.heap s (LL adr) (wf G adr M) H locs → W p l e { frames := 8, cells := 0, slots := 0, locals := 208 } s m args below meth c H locs 0 0 Q (F0 m 13 ls [.int v2, .ref (adr 36)]) := by
    intro ls H locs hl hw
    replace h := bnd h
    obtain ⟨v3, e3, h⟩ := h
    obtain rfl := pt_s e3
    refine m_putI (k := 36) (C := RX8) (T := TX8) (N := 18) (ref := "LiftFactorsModel") hx hb hi hts inX8_u tyX8 tyX8_ok nmX8 hown hw (by decide) rfl 3 (by decide) q_171 rfl rfl (by decide +kernel) rfl dX8_run_13 (fun H locs hw => ?_)
    obtain ⟨v3, e3⟩ : ∃ z9, z9 = sI M 36 3 v2 := ⟨_, rfl⟩
    rw [← e3] at h hw
    refine lv_aload_n hx hb dX8_run_16 rfl (lv_at hl 0 rfl) ?_
    refine m_get (k := 36) (C := RX8) (T := TX8) (N := 18) (ref := "LiftFactorsModel") (v := .int (v3.2 36 3)) hx hb hi hts inX8_u hown hw (by decide) rfl 3 (by decide) q_171 rfl rfl dX8_run_17 ?_
    refine lv_if_eq (tgt := 25) hx hb dX8_run_20 (by decide) (fun hc => ?_) (fun hc => ?_)
    · replace h := ite_t hc h
      refine lv_aload_n hx hb dX8_run_25 rfl (lv_at hl 0 rfl) ?_
      refine lv_iload_n hx hb dX8_run_26 rfl (lv_at hl 1 rfl) ?_
      refine lv_iconst (v := (0 : Int32)) hx hb dX8_run_27 (by decide) ?_
      replace h := bnd h
      obtain ⟨v4, e4, h⟩ := h
      refine m_callVv (k := 36) (As := [.int a0, .int (0 : Int32)]) (rest := []) cx.fix hi hw (cc_X8_load (l := l) (G := G) (sz := H.size) hi e4) (by decide) rfl rfl (w_cV 2 hts q_172 q_173 q_174 q_175 q_176 rfl rfl (by decide) (by decide)) hl.1 rfl (lv_room (Nat.le_of_ble_eq_true rfl)) dX8_run_28 (fun H locs hw => ?_)
      refine lv_aload_n hx hb dX8_run_31 rfl (lv_at hl 0 rfl) ?_
      refine m_get (k := 36) (C := RX8) (T := TX8) (N := 18) (ref := "LiftFactorsModel") (v := .ref (adr 42)) hx hb hi hts inX8_u hown hw (by decide) rfl 8 (by decide) q_1 rfl rfl dX8_run_32 ?_
      refine lv_iconst (v := (0 : Int32)) hx hb dX8_run_35 (by decide) ?_
      replace h := bnd h
      obtain ⟨v5, e5, h⟩ := h
      refine m_iald hx hb hi hw e5 dX8_run_36 ?_
      refine lv_istore_n (lv' := [(2, .int v5), (0, .ref (adr 36)), (1, .int a0)]) hx hb dX8_run_37 rfl hl (by decide) rfl (fun ls hl => ?_)
      refine lv_iload_n hx hb dX8_run_38 rfl (lv_at hl 0 rfl) ?_
      refine lv_if_ge (tgt := 44) hx hb dX8_run_39 (by decide) (fun hc => ?_) (fun hc => ?_)
      · replace h := ite_t hc h
        refine lv_aload_n hx hb dX8_run_44 rfl (lv_at hl 1 rfl) ?_
        refine lv_iload_n hx hb dX8_run_45 rfl (lv_at hl 0 rfl) ?_
        replace h := bnd h
        obtain ⟨v6, j31, h⟩ := h
        have kj : ∀ (ls : Array Slot) (H : Heap) (locs : List Loc), lv_has ls 4 [(0, .ref (adr 36)), (2, .int v5)] → wH G A s.heap s (LL adr) (wf G adr v4) H locs → W p l e { frames := 8, cells := 0, slots := 0, locals := 208 } s m args below meth c H locs 0 0 Q (F0 m 65 ls [.int v6, .ref (adr 36)]) := by
          intro ls H locs hl hw
          replace h := bnd h
          obtain ⟨v7, e7, h⟩ := h
          obtain rfl := pt_s e7
          refine m_putI (k := 36) (C := RX8) (T := TX8) (N := 18) (ref := "LiftFactorsModel") hx hb hi hts inX8_u tyX8 tyX8_ok nmX8 hown hw (by decide) rfl 3 (by decide) q_171 rfl rfl (by decide +kernel) rfl dX8_run_65 (fun H locs hw => ?_)
          obtain ⟨v7, e7⟩ : ∃ z9, z9 = sI v4 36 3 v6 := ⟨_, rfl⟩
          rw [← e7] at h hw
          refine lv_aload_n hx hb dX8_run_68 rfl (lv_at hl 0 rfl) ?_
          refine m_get (k := 36) (C := RX8) (T := TX8) (N := 18) (ref := "LiftFactorsModel") (v := .int (v7.2 36 3)) hx hb hi hts inX8_u hown hw (by decide) rfl 3 (by decide) q_171 rfl rfl dX8_run_69 ?_
          refine lv_if_eq (tgt := 77) hx hb dX8_run_72 (by decide) (fun hc => ?_) (fun hc => ?_)
          · replace h := ite_t hc h
            refine lv_aload_n hx hb dX8_run_77 rfl (lv_at hl 0 rfl) ?_
            refine lv_iconst (v := (0 : Int32)) hx hb dX8_run_78 (by decide) ?_
            replace h := bnd h
            obtain ⟨v8, e8, h⟩ := h
            obtain rfl := pt_s e8
            refine m_putI (k := 36) (C := RX8) (T := TX8) (N := 18) (ref := "LiftFactorsModel") hx hb hi hts inX8_u tyX8 tyX8_ok nmX8 hown hw (by decide) rfl 11 (by decide) q_131 rfl rfl (by decide +kernel) rfl dX8_run_79 (fun H locs hw => ?_)
            obtain ⟨v8, e8⟩ : ∃ z9, z9 = sI v7 36 11 (0 : Int32) := ⟨_, rfl⟩
            rw [← e8] at h hw
            refine lv_iload_n hx hb dX8_run_82 rfl (lv_at hl 1 rfl) ?_
            replace h := bnd h
            obtain ⟨M15, j30, h⟩ := h
            have kj : ∀ (ls : Array Slot) (H : Heap) (locs : List Loc), lv_has ls 4 [(0, .ref (adr 36))] → wH G A s.heap s (LL adr) (wf G adr M15) H locs → W p l e { frames := 8, cells := 0, slots := 0, locals := 208 } s m args below meth c H locs 0 0 Q (F0 m 108 ls []) := by
              intro ls H locs hl hw
              refine lv_iconst (v := (0 : Int32)) hx hb dX8_run_108 (by decide) ?_
              refine lv_istore_n (lv' := [(3, .int (0 : Int32)), (0, .ref (adr 36))]) hx hb dX8_run_109 rfl hl (by decide) rfl (fun ls hl => ?_)
              replace h := bnd h
              obtain ⟨o29, j18, h⟩ := h
              refine lp_W (Wst := fun (st : Int32) => ∀ (ls : Array Slot) (H : Heap) (locs : List Loc), lv_has ls 4 [(0, .ref (adr 36)), (3, .int st)] → wH G A s.heap s (LL adr) (wf G adr M15) H locs → W p l e { frames := 8, cells := 0, slots := 0, locals := 208 } s m args below meth c H locs 0 0 Q (F0 m 110 ls [])) (fin := fun (r : (Int32 × Mem) ⊕ (Unit)) => match r with
      | .inl o => ∀ (pc : Nat) (ls : Array Slot) (H : Heap) (locs : List Loc), decode cX8_run pc = .ok (.ireturn, 1) → wH G A s.heap s (LL adr) (wf G adr o.2) H locs → W p l e { frames := 8, cells := 0, slots := 0, locals := 208 } s m args below meth c H locs 0 0 Q (F0 m pc ls [.int o.1])
      | .inr q => ∀ (ls : Array Slot) (H : Heap) (locs : List Loc), lv_has ls 4 [(0, .ref (adr 36))] → wH G A s.heap s (LL adr) (wf G adr M15) H locs → W p l e { frames := 8, cells := 0, slots := 0, locals := 208 } s m args below meth c H locs 0 0 Q (F0 m 138 ls [])) ?_ n _ _ j18 ?_ _ _ _ (lv_sub hl [1, 0] rfl) hw
              · clear h j18 hw hl
                intro v16 x h k1 k2 ls H locs hl hw
                (try dsimp only at k2 hl hw ⊢)
                unfold l_X8_run_110 at h
                (try dsimp only at h)
                refine lv_iload_n hx hb dX8_run_110 rfl (lv_at hl 1 rfl) ?_
                refine lv_aload_n hx hb dX8_run_111 rfl (lv_at hl 0 rfl) ?_
                refine m_get (k := 36) (C := RX8) (T := TX8) (N := 18) (ref := "LiftFactorsModel") (v := .int (M15.2 36 11)) hx hb hi hts inX8_u hown hw (by decide) rfl 11 (by decide) q_131 rfl rfl dX8_run_112 ?_
                refine lv_icmp_ge (tgt := 138) hx hb dX8_run_115 (by decide) (fun hc => ?_) (fun hc => ?_)
                · replace h := ite_t hc h
                  cases h
                  exact k1 _ rfl _ _ _ (lv_sub hl [0] rfl) hw
                · replace h := ite_f hc h
                  refine lv_aload_n hx hb dX8_run_118 rfl (lv_at hl 0 rfl) ?_
                  refine lv_bipush (v := (40 : Int32)) hx hb dX8_run_119 (by decide) ?_
                  refine lv_iload_n hx hb dX8_run_121 rfl (lv_at hl 1 rfl) ?_
                  refine lv_iadd hx hb dX8_run_122 ?_
                  replace h := bnd h
                  obtain ⟨v17, e17, h⟩ := h
                  refine m_callVi (k := 36) (As := [.int ((40 : Int32) + v16)]) (rest := []) cx.fix hi hw (cc_X8_great (l := l) (G := G) (sz := H.size) hi e17) (by decide) rfl rfl (w_cV 1 hts q_197 q_198 q_199 q_200 q_201 rfl rfl (by decide) (by decide)) hl.1 rfl (lv_room (Nat.le_of_ble_eq_true rfl)) dX8_run_123 (fun H locs hw => ?_)
                  refine lv_if_eq (tgt := 132) hx hb dX8_run_126 (by decide) (fun hc => ?_) (fun hc => ?_)
                  · replace h := ite_t hc h
                    refine lv_iinc (v := v16 + 1) (lv' := [(3, .int (v16 + 1)), (0, .ref (adr 36))]) hx hb dX8_run_132 hl (k := 1) rfl (inc_p _ (by decide)) (by decide) rfl (fun ls hl => ?_)
                    refine lv_goto (tgt := 110) hx hb dX8_run_135 (by decide) ?_
                    cases h
                    exact k2 _ rfl _ _ _ (lv_sub hl [1, 0] rfl) hw
                  · replace h := ite_f hc h
                    refine lv_bipush (v := (-2 : Int32)) hx hb dX8_run_129 (by decide) ?_
                    cases h
                    exact k1 _ rfl _ _ _ _ dX8_run_131 hw
              · clear hw hl j18
                rcases o29 with o9 | _
                · cases h
                  exact kr
                · intro ls H locs hl hw
                  (try dsimp only at h hl hw ⊢)
                  refine lv_aload_n hx hb dX8_run_138 rfl (lv_at hl 0 rfl) ?_
                  refine lv_aload_n hx hb dX8_run_139 rfl (lv_at hl 0 rfl) ?_
                  refine m_get (k := 36) (C := RX8) (T := TX8) (N := 18) (ref := "LiftFactorsModel") (v := .int (M15.2 36 11)) hx hb hi hts inX8_u hown hw (by decide) rfl 11 (by decide) q_131 rfl rfl dX8_run_140 ?_
                  replace h := bnd h
                  obtain ⟨v19, e19, h⟩ := h
                  obtain rfl := pt_s e19
                  refine m_putI (k := 36) (C := RX8) (T := TX8) (N := 18) (ref := "LiftFactorsModel") hx hb hi hts inX8_u tyX8 tyX8_ok nmX8 hown hw (by decide) rfl 4 (by decide) q_202 rfl rfl (by decide +kernel) rfl dX8_run_143 (fun H locs hw => ?_)
                  obtain ⟨v19, e19⟩ : ∃ z9, z9 = sI M15 36 4 (M15.2 36 11) := ⟨_, rfl⟩
                  rw [← e19] at h hw
                  refine lv_iconst (v := (0 : Int32)) hx hb dX8_run_146 (by decide) ?_
                  refine lv_istore_n (lv' := [(3, .int (0 : Int32)), (0, .ref (adr 36))]) hx hb dX8_run_147 rfl hl (by decide) rfl (fun ls hl => ?_)
                  replace h := bnd h
                  obtain ⟨M28, j27, h⟩ := h
                  refine lp_W (Wst := fun (st : Mem × Int32) => ∀ (ls : Array Slot) (H : Heap) (locs : List Loc), lv_has ls 4 [(0, .ref (adr 36)), (3, .int st.2)] → wH G A s.heap s (LL adr) (wf G adr st.1) H locs → W p l e { frames := 8, cells := 0, slots := 0, locals := 208 } s m args below meth c H locs 0 0 Q (F0 m 148 ls [])) (fin := fun (r : Mem) => ∀ (ls : Array Slot) (H : Heap) (locs : List Loc), lv_has ls 4 [(0, .ref (adr 36))] → wH G A s.heap s (LL adr) (wf G adr r) H locs → W p l e { frames := 8, cells := 0, slots := 0, locals := 208 } s m args below meth c H locs 0 0 Q (F0 m 188 ls [])) ?_ n _ _ j27 ?_ _ _ _ (lv_sub hl [1, 0] rfl) hw
                  · clear h j27 hw hl
                    intro ⟨M20, v21⟩ x h k1 k2 ls H locs hl hw
                    (try dsimp only at k1 k2 hl hw ⊢)
                    unfold l_X8_run_148 at h
                    (try dsimp only at h)
                    refine lv_iload_n hx hb dX8_run_148 rfl (lv_at hl 1 rfl) ?_
                    refine lv_aload_n hx hb dX8_run_149 rfl (lv_at hl 0 rfl) ?_
                    refine m_get (k := 36) (C := RX8) (T := TX8) (N := 18) (ref := "LiftFactorsModel") (v := .int (M20.2 36 11)) hx hb hi hts inX8_u hown hw (by decide) rfl 11 (by decide) q_131 rfl rfl dX8_run_150 ?_
                    refine lv_icmp_ge (tgt := 188) hx hb dX8_run_153 (by decide) (fun hc => ?_) (fun hc => ?_)
                    · replace h := ite_t hc h
                      cases h
                      exact k1 _ rfl _ _ _ (lv_sub hl [0] rfl) hw
                    · replace h := ite_f hc h
                      refine lv_aload_n hx hb dX8_run_156 rfl (lv_at hl 0 rfl) ?_
                      refine m_get (k := 36) (C := RX8) (T := TX8) (N := 18) (ref := "LiftFactorsModel") (v := .ref (adr 39)) hx hb hi hts inX8_u hown hw (by decide) rfl 5 (by decide) q_203 rfl rfl dX8_run_157 ?_
                      refine lv_iload_n hx hb dX8_run_160 rfl (lv_at hl 1 rfl) ?_
                      refine lv_aload_n hx hb dX8_run_161 rfl (lv_at hl 0 rfl) ?_
                      refine lv_bipush (v := (40 : Int32)) hx hb dX8_run_162 (by decide) ?_
                      refine lv_iload_n hx hb dX8_run_164 rfl (lv_at hl 1 rfl) ?_
                      refine lv_iadd hx hb dX8_run_165 ?_
                      replace h := bnd h
                      obtain ⟨⟨v22, M23⟩, e22, h⟩ := h
                      refine m_callVi (k := 36) (As := [.int ((40 : Int32) + v21)]) (rest := [.int v21, .ref (adr 39)]) cx.fix hi hw (cc_X8_store (l := l) (G := G) (sz := H.size) hi e22) (by decide) rfl rfl (w_cV 1 hts q_204 q_205 q_206 q_207 q_208 rfl rfl (by decide) (by decide)) hl.1 rfl (lv_room (Nat.le_of_ble_eq_true rfl)) dX8_run_166 (fun H locs hw => ?_)
                      replace h := bnd h
                      obtain ⟨v24, e24, h⟩ := h
                      refine m_iast hx hb hi hw e24 dX8_run_169 (fun H locs hw => ?_)
                      refine lv_aload_n hx hb dX8_run_170 rfl (lv_at hl 0 rfl) ?_
                      refine m_get (k := 36) (C := RX8) (T := TX8) (N := 18) (ref := "LiftFactorsModel") (v := .ref (adr 40)) hx hb hi hts inX8_u hown hw (by decide) rfl 6 (by decide) q_209 rfl rfl dX8_run_171 ?_
                      refine lv_iload_n hx hb dX8_run_174 rfl (lv_at hl 1 rfl) ?_
                      refine lv_aload_n hx hb dX8_run_175 rfl (lv_at hl 0 rfl) ?_
                      refine m_get (k := 36) (C := RX8) (T := TX8) (N := 18) (ref := "LiftFactorsModel") (v := .ref (adr 43)) hx hb hi hts inX8_u hown hw (by decide) rfl 12 (by decide) q_166 rfl rfl dX8_run_176 ?_
                      refine lv_iload_n hx hb dX8_run_179 rfl (lv_at hl 1 rfl) ?_
                      replace h := bnd h
                      obtain ⟨v25, e25, h⟩ := h
                      refine m_iald hx hb hi hw e25 dX8_run_180 ?_
                      replace h := bnd h
                      obtain ⟨v26, e26, h⟩ := h
                      refine m_iast hx hb hi hw e26 dX8_run_181 (fun H locs hw => ?_)
                      refine lv_iinc (v := v21 + 1) (lv' := [(3, .int (v21 + 1)), (0, .ref (adr 36))]) hx hb dX8_run_182 hl (k := 1) rfl (inc_p _ (by decide)) (by decide) rfl (fun ls hl => ?_)
                      refine lv_goto (tgt := 148) hx hb dX8_run_185 (by decide) ?_
                      cases h
                      exact k2 _ rfl _ _ _ (lv_sub hl [1, 0] rfl) hw
                  · clear hw hl
                    intro ls H locs hl hw
                    (try dsimp only at hl hw ⊢)
                    refine lv_aload_n hx hb dX8_run_188 rfl (lv_at hl 0 rfl) ?_
                    refine m_get (k := 36) (C := RX8) (T := TX8) (N := 18) (ref := "LiftFactorsModel") (v := .int (M28.2 36 11)) hx hb hi hts inX8_u hown hw (by decide) rfl 11 (by decide) q_131 rfl rfl dX8_run_189 ?_
                    cases h
                    exact kr _ _ _ _ dX8_run_192 hw
            clear h
            replace h := j30
            clear j30
            refine lv_if_le (tgt := 108) hx hb dX8_run_83 (by decide) (fun hc => ?_) (fun hc => ?_)
            · replace h := ite_t hc h
              cases h
              exact kj _ _ _ (lv_sub hl [0] rfl) hw
            · replace h := ite_f hc h
              refine lv_aload_n hx hb dX8_run_86 rfl (lv_at hl 0 rfl) ?_
              refine lv_iconst (v := (0 : Int32)) hx hb dX8_run_87 (by decide) ?_
              replace h := bnd h
              obtain ⟨⟨v9, M10⟩, e9, h⟩ := h
              refine m_callVl (k := 36) (As := [.int (0 : Int32)]) (rest := []) cx.fix hi hw (cc_X8_primitive (l := l) (G := G) (sz := H.size) hi e9) (by decide) rfl rfl (w_cV 1 hts q_64 q_65 q_66 q_67 q_68 rfl rfl (by decide) (by decide)) hl.1 rfl (lv_room (Nat.le_of_ble_eq_true rfl)) dX8_run_88 (fun H locs hw => ?_)
              refine lv_pop2_2 hx hb dX8_run_91 rfl ?_
              refine lv_aload_n hx hb dX8_run_92 rfl (lv_at hl 0 rfl) ?_
              replace h := bnd h
              obtain ⟨v11, e11, h⟩ := h
              refine m_callVv (k := 36) (As := []) (rest := []) cx.fix hi hw (cc_X8_squareFreePart (l := l) (G := G) (sz := H.size) hi e11) (by decide) rfl rfl (w_cV 0 hts q_177 q_178 q_179 q_180 q_181 rfl rfl (by decide) (by decide)) hl.1 rfl (lv_room (Nat.le_of_ble_eq_true rfl)) dX8_run_93 (fun H locs hw => ?_)
              refine lv_aload_n hx hb dX8_run_96 rfl (lv_at hl 0 rfl) ?_
              replace h := bnd h
              obtain ⟨v12, e12, h⟩ := h
              refine m_callVv (k := 36) (As := []) (rest := []) cx.fix hi hw (cc_X8_factorWhole (l := l) (G := G) (sz := H.size) hi e12) (by decide) rfl rfl (w_cV 0 hts q_182 q_183 q_184 q_185 q_186 rfl rfl (by decide) (by decide)) hl.1 rfl (lv_room (Nat.le_of_ble_eq_true rfl)) dX8_run_97 (fun H locs hw => ?_)
              refine lv_aload_n hx hb dX8_run_100 rfl (lv_at hl 0 rfl) ?_
              replace h := bnd h
              obtain ⟨v13, e13, h⟩ := h
              refine m_callVv (k := 36) (As := []) (rest := []) cx.fix hi hw (cc_X8_sort (l := l) (G := G) (sz := H.size) hi e13) (by decide) rfl rfl (w_cV 0 hts q_187 q_188 q_189 q_190 q_191 rfl rfl (by decide) (by decide)) hl.1 rfl (lv_room (Nat.le_of_ble_eq_true rfl)) dX8_run_101 (fun H locs hw => ?_)
              refine lv_aload_n hx hb dX8_run_104 rfl (lv_at hl 0 rfl) ?_
              replace h := bnd h
              obtain ⟨v14, e14, h⟩ := h
              refine m_callVv (k := 36) (As := []) (rest := []) cx.fix hi hw (cc_X8_countOften (l := l) (G := G) (sz := H.size) hi e14) (by decide) rfl rfl (w_cV 0 hts q_192 q_193 q_194 q_195 q_196 rfl rfl (by decide) (by decide)) hl.1 rfl (lv_room (Nat.le_of_ble_eq_true rfl)) dX8_run_105 (fun H locs hw => ?_)
              cases h
              exact kj _ _ _ (lv_sub hl [0] rfl) hw
          · replace h := ite_f hc h
            refine lv_iconst (v := (0 : Int32)) hx hb dX8_run_75 (by decide) ?_
            cases h
            exact kr _ _ _ _ dX8_run_76 hw
        clear h
        replace h := j31
        clear j31
        refine lv_if_le (tgt := 64) hx hb dX8_run_46 (by decide) (fun hc => ?_) (fun hc => ?_)
        · replace h := ite_t hc h
          refine lv_iconst (v := (0 : Int32)) hx hb dX8_run_64 (by decide) ?_
          cases h
          exact kj _ _ _ (lv_sub hl [1, 0] rfl) hw
        · replace h := ite_f hc h
          refine lv_bipush (v := (80 : Int32)) hx hb dX8_run_49 (by decide) ?_
          refine lv_aload_n hx hb dX8_run_51 rfl (lv_at hl 1 rfl) ?_
          refine m_get (k := 36) (C := RX8) (T := TX8) (N := 18) (ref := "LiftFactorsModel") (v := .int (v4.2 36 2)) hx hb hi hts inX8_u hown hw (by decide) rfl 2 (by decide) q_16 rfl rfl dX8_run_52 ?_
          refine lv_isub hx hb dX8_run_55 ?_
          refine lv_iload_n hx hb dX8_run_56 rfl (lv_at hl 0 rfl) ?_
          refine lv_icmp_ge (tgt := 64) hx hb dX8_run_57 (by decide) (fun hc => ?_) (fun hc => ?_)
          · replace h := ite_t hc h
            refine lv_iconst (v := (0 : Int32)) hx hb dX8_run_64 (by decide) ?_
            cases h
            exact kj _ _ _ (lv_sub hl [1, 0] rfl) hw
          · replace h := ite_f hc h
            refine lv_iconst (v := (2 : Int32)) hx hb dX8_run_60 (by decide) ?_
            refine lv_goto (tgt := 65) hx hb dX8_run_61 (by decide) ?_
            cases h
            exact kj _ _ _ (lv_sub hl [1, 0] rfl) hw
      · replace h := ite_f hc h
        refine lv_iconst (v := (-1 : Int32)) hx hb dX8_run_42 (by decide) ?_
        cases h
        exact kr _ _ _ _ dX8_run_43 hw
    · replace h := ite_f hc h
      refine lv_iconst (v := (0 : Int32)) hx hb dX8_run_23 (by decide) ?_
      cases h
      exact kr _ _ _ _ dX8_run_24 hw
  clear h
  replace h := j32
  clear j32
  refine lv_if_eq (tgt := 12) hx hb dX8_run_5 (by decide) (fun hc => ?_) (fun hc => ?_)
  · replace h := ite_t hc h
    refine lv_iconst (v := (1 : Int32)) hx hb dX8_run_12 (by decide) ?_
    cases h
    exact kj _ _ _ (lv_sub hl [0, 1] rfl) hw
  · replace h := ite_f hc h
    refine lv_iconst (v := (0 : Int32)) hx hb dX8_run_8 (by decide) ?_
    refine lv_goto (tgt := 13) hx hb dX8_run_9 (by decide) ?_
    cases h
    exact kj _ _ _ (lv_sub hl [0, 1] rfl) hw
theorem cc_X8_run {l : Launch} {G : gG} {adr : Nat → Nat} {sz : Nat} (hi : adi adr) {n : Nat} {a0 : Int32} {M M' : Mem} {r : Int32} (h : f_X8_run n a0 M = some (r, M')) : mI l yX8_run cX8_run 4 (some .int) { frames := 8, cells := 0, slots := 0, locals := 208 } G adr [.ref (adr 36), .int a0] M sz r M' := by
  refine wEnter (by decide) (Nat.le_of_ble_eq_true rfl) ?_
  intro p e s m below meth c ls cx hinit hl hsz hw
  exact b_X8_run cx hi h (fun pc ls H locs hd hw => w_iret (post := fun (r9 : Int32) (u : Mem) => r9 = r ∧ u = M') (lf := fun u => (LL adr, wf G adr u)) cx.1 cx.2.1 cx.2.2.1 cx.2.2.2.2.2.2 M' hw ⟨rfl, rfl⟩ hd) hl hw
def f_X8_factor (a0 : Int32) (M : Mem) : Option (Int32 × Mem) :=
  Option.bind (
    if a0 < 0 then
      some (1 : Int32)
    else
      if a0 < (M.2 36 4) then
        some (0 : Int32)
      else
        some (1 : Int32)) fun v1 =>
  Option.bind (ptI M 36 3 v1) fun v2 =>
  Option.bind (
    if (v2.2 36 3) = 0 then
      Option.bind (ldI v2 39 a0) fun v3 =>
      some v3
    else
      some (0 : Int32)) fun v4 =>
  some (v4, v2)
set_option maxRecDepth 100000 in
set_option maxHeartbeats 8000000 in
theorem b_X8_factor {p : Program} {l : Launch} {e : Env} {s : State} {m : MethodId} {args : Array Value} {below : List Frame} {meth : Method} {c : Code} {Q : State → Prop} {G : gG} {A : Nat → Prop} {adr : Nat → Nat} (cx : cX p s m args meth c cX8_factor (some .int) 2 yX8_factor.cls) (hi : adi adr) {a0 : Int32} {M M' : Mem} {r : Int32} 
    (h : f_X8_factor a0 M = some (r, M'))
    (kr : ∀ (pc : Nat) (ls : Array Slot) (H : Heap) (locs : List Loc), decode cX8_factor pc = .ok (.ireturn, 1) → wH G A s.heap s (LL adr) (wf G adr M') H locs → W p l e { frames := 0, cells := 0, slots := 0, locals := 0 } s m args below meth c H locs 0 0 Q (F0 m pc ls [.int r]))
    {ls : Array Slot} {H : Heap} {locs : List Loc} (hl : lv_has ls 2 [(0, .ref (adr 36)), (1, .int a0)]) (hw : wH G A s.heap s (LL adr) (wf G adr M) H locs) : W p l e { frames := 0, cells := 0, slots := 0, locals := 0 } s m args below meth c H locs 0 0 Q (F0 m 0 ls []) := by
  obtain ⟨hx, hb, -, -, hown, hts, -⟩ := id cx
  have hown : s.vm.findClass RX8 = some m.cls := hown
  unfold f_X8_factor at h
  refine lv_aload_n hx hb dX8_factor_0 rfl (lv_at hl 0 rfl) ?_
  refine lv_iload_n hx hb dX8_factor_1 rfl (lv_at hl 1 rfl) ?_
  replace h := bnd h
  obtain ⟨v1, j6, h⟩ := h
  have kj : ∀ (ls : Array Slot) (H : Heap) (locs : List Loc), lv_has ls 2 [(0, .ref (adr 36)), (1, .int a0)] → wH G A s.heap s (LL adr) (wf G adr M) H locs → W p l e { frames := 0, cells := 0, slots := 0, locals := 0 } s m args below meth c H locs 0 0 Q (F0 m 18 ls [.int v1, .ref (adr 36)]) := by
    intro ls H locs hl hw
    replace h := bnd h
    obtain ⟨v2, e2, h⟩ := h
    obtain rfl := pt_s e2
    refine m_putI (k := 36) (C := RX8) (T := TX8) (N := 18) (ref := "LiftFactorsModel") hx hb hi hts inX8_u tyX8 tyX8_ok nmX8 hown hw (by decide) rfl 3 (by decide) q_171 rfl rfl (by decide +kernel) rfl dX8_factor_18 (fun H locs hw => ?_)
    obtain ⟨v2, e2⟩ : ∃ z9, z9 = sI M 36 3 v1 := ⟨_, rfl⟩
    rw [← e2] at h hw
    refine lv_aload_n hx hb dX8_factor_21 rfl (lv_at hl 0 rfl) ?_
    refine m_get (k := 36) (C := RX8) (T := TX8) (N := 18) (ref := "LiftFactorsModel") (v := .int (v2.2 36 3)) hx hb hi hts inX8_u hown hw (by decide) rfl 3 (by decide) q_171 rfl rfl dX8_factor_22 ?_
    replace h := bnd h
    obtain ⟨v4, j5, h⟩ := h
    have kj : ∀ (ls : Array Slot) (H : Heap) (locs : List Loc), lv_has ls 2 [] → wH G A s.heap s (LL adr) (wf G adr v2) H locs → W p l e { frames := 0, cells := 0, slots := 0, locals := 0 } s m args below meth c H locs 0 0 Q (F0 m 38 ls [.int v4]) := by
      intro ls H locs hl hw
      cases h
      exact kr _ _ _ _ dX8_factor_38 hw
    clear h
    replace h := j5
    clear j5
    refine lv_if_eq (tgt := 32) hx hb dX8_factor_25 (by decide) (fun hc => ?_) (fun hc => ?_)
    · replace h := ite_t hc h
      refine lv_aload_n hx hb dX8_factor_32 rfl (lv_at hl 0 rfl) ?_
      refine m_get (k := 36) (C := RX8) (T := TX8) (N := 18) (ref := "LiftFactorsModel") (v := .ref (adr 39)) hx hb hi hts inX8_u hown hw (by decide) rfl 5 (by decide) q_203 rfl rfl dX8_factor_33 ?_
      refine lv_iload_n hx hb dX8_factor_36 rfl (lv_at hl 1 rfl) ?_
      replace h := bnd h
      obtain ⟨v3, e3, h⟩ := h
      refine m_iald hx hb hi hw e3 dX8_factor_37 ?_
      cases h
      exact kj _ _ _ (lv_sub hl [] rfl) hw
    · replace h := ite_f hc h
      refine lv_iconst (v := (0 : Int32)) hx hb dX8_factor_28 (by decide) ?_
      refine lv_goto (tgt := 38) hx hb dX8_factor_29 (by decide) ?_
      cases h
      exact kj _ _ _ (lv_sub hl [] rfl) hw
  clear h
  replace h := j6
  clear j6
  refine lv_if_lt (tgt := 13) hx hb dX8_factor_2 (by decide) (fun hc => ?_) (fun hc => ?_)
  · replace h := ite_t hc h
    refine lv_iconst (v := (1 : Int32)) hx hb dX8_factor_13 (by decide) ?_
    refine lv_goto (tgt := 18) hx hb dX8_factor_14 (by decide) ?_
    cases h
    exact kj _ _ _ (lv_sub hl [0, 1] rfl) hw
  · replace h := ite_f hc h
    refine lv_iload_n hx hb dX8_factor_5 rfl (lv_at hl 1 rfl) ?_
    refine lv_aload_n hx hb dX8_factor_6 rfl (lv_at hl 0 rfl) ?_
    refine m_get (k := 36) (C := RX8) (T := TX8) (N := 18) (ref := "LiftFactorsModel") (v := .int (M.2 36 4)) hx hb hi hts inX8_u hown hw (by decide) rfl 4 (by decide) q_202 rfl rfl dX8_factor_7 ?_
    refine lv_icmp_lt (tgt := 17) hx hb dX8_factor_10 (by decide) (fun hc => ?_) (fun hc => ?_)
    · replace h := ite_t hc h
      refine lv_iconst (v := (0 : Int32)) hx hb dX8_factor_17 (by decide) ?_
      cases h
      exact kj _ _ _ (lv_sub hl [0, 1] rfl) hw
    · replace h := ite_f hc h
      refine lv_iconst (v := (1 : Int32)) hx hb dX8_factor_13 (by decide) ?_
      refine lv_goto (tgt := 18) hx hb dX8_factor_14 (by decide) ?_
      cases h
      exact kj _ _ _ (lv_sub hl [0, 1] rfl) hw
theorem cc_X8_factor {l : Launch} {G : gG} {adr : Nat → Nat} {sz : Nat} (hi : adi adr) {a0 : Int32} {M M' : Mem} {r : Int32} (h : f_X8_factor a0 M = some (r, M')) : mI l yX8_factor cX8_factor 2 (some .int) { frames := 0, cells := 0, slots := 0, locals := 0 } G adr [.ref (adr 36), .int a0] M sz r M' := by
  refine wEnter (by decide) (Nat.le_of_ble_eq_true rfl) ?_
  intro p e s m below meth c ls cx hinit hl hsz hw
  exact b_X8_factor cx hi h (fun pc ls H locs hd hw => w_iret (post := fun (r9 : Int32) (u : Mem) => r9 = r ∧ u = M') (lf := fun u => (LL adr, wf G adr u)) cx.1 cx.2.1 cx.2.2.1 cx.2.2.2.2.2.2 M' hw ⟨rfl, rfl⟩ hd) hl hw
def f_X8_multiplicity (a0 : Int32) (M : Mem) : Option (Int32 × Mem) :=
  Option.bind (
    if a0 < 0 then
      some (1 : Int32)
    else
      if a0 < (M.2 36 4) then
        some (0 : Int32)
      else
        some (1 : Int32)) fun v1 =>
  Option.bind (ptI M 36 3 v1) fun v2 =>
  Option.bind (
    if (v2.2 36 3) = 0 then
      Option.bind (ldI v2 40 a0) fun v3 =>
      some v3
    else
      some (0 : Int32)) fun v4 =>
  some (v4, v2)
set_option maxRecDepth 100000 in
set_option maxHeartbeats 8000000 in
theorem b_X8_multiplicity {p : Program} {l : Launch} {e : Env} {s : State} {m : MethodId} {args : Array Value} {below : List Frame} {meth : Method} {c : Code} {Q : State → Prop} {G : gG} {A : Nat → Prop} {adr : Nat → Nat} (cx : cX p s m args meth c cX8_multiplicity (some .int) 2 yX8_multiplicity.cls) (hi : adi adr) {a0 : Int32} {M M' : Mem} {r : Int32} 
    (h : f_X8_multiplicity a0 M = some (r, M'))
    (kr : ∀ (pc : Nat) (ls : Array Slot) (H : Heap) (locs : List Loc), decode cX8_multiplicity pc = .ok (.ireturn, 1) → wH G A s.heap s (LL adr) (wf G adr M') H locs → W p l e { frames := 0, cells := 0, slots := 0, locals := 0 } s m args below meth c H locs 0 0 Q (F0 m pc ls [.int r]))
    {ls : Array Slot} {H : Heap} {locs : List Loc} (hl : lv_has ls 2 [(0, .ref (adr 36)), (1, .int a0)]) (hw : wH G A s.heap s (LL adr) (wf G adr M) H locs) : W p l e { frames := 0, cells := 0, slots := 0, locals := 0 } s m args below meth c H locs 0 0 Q (F0 m 0 ls []) := by
  obtain ⟨hx, hb, -, -, hown, hts, -⟩ := id cx
  have hown : s.vm.findClass RX8 = some m.cls := hown
  unfold f_X8_multiplicity at h
  refine lv_aload_n hx hb dX8_multiplicity_0 rfl (lv_at hl 0 rfl) ?_
  refine lv_iload_n hx hb dX8_multiplicity_1 rfl (lv_at hl 1 rfl) ?_
  replace h := bnd h
  obtain ⟨v1, j6, h⟩ := h
  have kj : ∀ (ls : Array Slot) (H : Heap) (locs : List Loc), lv_has ls 2 [(0, .ref (adr 36)), (1, .int a0)] → wH G A s.heap s (LL adr) (wf G adr M) H locs → W p l e { frames := 0, cells := 0, slots := 0, locals := 0 } s m args below meth c H locs 0 0 Q (F0 m 18 ls [.int v1, .ref (adr 36)]) := by
    intro ls H locs hl hw
    replace h := bnd h
    obtain ⟨v2, e2, h⟩ := h
    obtain rfl := pt_s e2
    refine m_putI (k := 36) (C := RX8) (T := TX8) (N := 18) (ref := "LiftFactorsModel") hx hb hi hts inX8_u tyX8 tyX8_ok nmX8 hown hw (by decide) rfl 3 (by decide) q_171 rfl rfl (by decide +kernel) rfl dX8_multiplicity_18 (fun H locs hw => ?_)
    obtain ⟨v2, e2⟩ : ∃ z9, z9 = sI M 36 3 v1 := ⟨_, rfl⟩
    rw [← e2] at h hw
    refine lv_aload_n hx hb dX8_multiplicity_21 rfl (lv_at hl 0 rfl) ?_
    refine m_get (k := 36) (C := RX8) (T := TX8) (N := 18) (ref := "LiftFactorsModel") (v := .int (v2.2 36 3)) hx hb hi hts inX8_u hown hw (by decide) rfl 3 (by decide) q_171 rfl rfl dX8_multiplicity_22 ?_
    replace h := bnd h
    obtain ⟨v4, j5, h⟩ := h
    have kj : ∀ (ls : Array Slot) (H : Heap) (locs : List Loc), lv_has ls 2 [] → wH G A s.heap s (LL adr) (wf G adr v2) H locs → W p l e { frames := 0, cells := 0, slots := 0, locals := 0 } s m args below meth c H locs 0 0 Q (F0 m 38 ls [.int v4]) := by
      intro ls H locs hl hw
      cases h
      exact kr _ _ _ _ dX8_multiplicity_38 hw
    clear h
    replace h := j5
    clear j5
    refine lv_if_eq (tgt := 32) hx hb dX8_multiplicity_25 (by decide) (fun hc => ?_) (fun hc => ?_)
    · replace h := ite_t hc h
      refine lv_aload_n hx hb dX8_multiplicity_32 rfl (lv_at hl 0 rfl) ?_
      refine m_get (k := 36) (C := RX8) (T := TX8) (N := 18) (ref := "LiftFactorsModel") (v := .ref (adr 40)) hx hb hi hts inX8_u hown hw (by decide) rfl 6 (by decide) q_209 rfl rfl dX8_multiplicity_33 ?_
      refine lv_iload_n hx hb dX8_multiplicity_36 rfl (lv_at hl 1 rfl) ?_
      replace h := bnd h
      obtain ⟨v3, e3, h⟩ := h
      refine m_iald hx hb hi hw e3 dX8_multiplicity_37 ?_
      cases h
      exact kj _ _ _ (lv_sub hl [] rfl) hw
    · replace h := ite_f hc h
      refine lv_iconst (v := (0 : Int32)) hx hb dX8_multiplicity_28 (by decide) ?_
      refine lv_goto (tgt := 38) hx hb dX8_multiplicity_29 (by decide) ?_
      cases h
      exact kj _ _ _ (lv_sub hl [] rfl) hw
  clear h
  replace h := j6
  clear j6
  refine lv_if_lt (tgt := 13) hx hb dX8_multiplicity_2 (by decide) (fun hc => ?_) (fun hc => ?_)
  · replace h := ite_t hc h
    refine lv_iconst (v := (1 : Int32)) hx hb dX8_multiplicity_13 (by decide) ?_
    refine lv_goto (tgt := 18) hx hb dX8_multiplicity_14 (by decide) ?_
    cases h
    exact kj _ _ _ (lv_sub hl [0, 1] rfl) hw
  · replace h := ite_f hc h
    refine lv_iload_n hx hb dX8_multiplicity_5 rfl (lv_at hl 1 rfl) ?_
    refine lv_aload_n hx hb dX8_multiplicity_6 rfl (lv_at hl 0 rfl) ?_
    refine m_get (k := 36) (C := RX8) (T := TX8) (N := 18) (ref := "LiftFactorsModel") (v := .int (M.2 36 4)) hx hb hi hts inX8_u hown hw (by decide) rfl 4 (by decide) q_202 rfl rfl dX8_multiplicity_7 ?_
    refine lv_icmp_lt (tgt := 17) hx hb dX8_multiplicity_10 (by decide) (fun hc => ?_) (fun hc => ?_)
    · replace h := ite_t hc h
      refine lv_iconst (v := (0 : Int32)) hx hb dX8_multiplicity_17 (by decide) ?_
      cases h
      exact kj _ _ _ (lv_sub hl [0, 1] rfl) hw
    · replace h := ite_f hc h
      refine lv_iconst (v := (1 : Int32)) hx hb dX8_multiplicity_13 (by decide) ?_
      refine lv_goto (tgt := 18) hx hb dX8_multiplicity_14 (by decide) ?_
      cases h
      exact kj _ _ _ (lv_sub hl [0, 1] rfl) hw
theorem cc_X8_multiplicity {l : Launch} {G : gG} {adr : Nat → Nat} {sz : Nat} (hi : adi adr) {a0 : Int32} {M M' : Mem} {r : Int32} (h : f_X8_multiplicity a0 M = some (r, M')) : mI l yX8_multiplicity cX8_multiplicity 2 (some .int) { frames := 0, cells := 0, slots := 0, locals := 0 } G adr [.ref (adr 36), .int a0] M sz r M' := by
  refine wEnter (by decide) (Nat.le_of_ble_eq_true rfl) ?_
  intro p e s m below meth c ls cx hinit hl hsz hw
  exact b_X8_multiplicity cx hi h (fun pc ls H locs hd hw => w_iret (post := fun (r9 : Int32) (u : Mem) => r9 = r ∧ u = M') (lf := fun u => (LL adr, wf G adr u)) cx.1 cx.2.1 cx.2.2.1 cx.2.2.2.2.2.2 M' hw ⟨rfl, rfl⟩ hd) hl hw
def f_X8_poly (n : Nat) (M : Mem) : Option (Int32 × Mem) :=
  Option.bind (
    if (M.2 36 2) = (80 : Int32) then
      some (1 : Int32)
    else
      some (0 : Int32)) fun v1 =>
  Option.bind (ptI M 36 3 v1) fun v2 =>
  if (v2.2 36 3) = 0 then
    Option.bind (f_X8_constant (11 : Int32) (0 : Int64) v2) fun v3 =>
    Option.bind (f_X8_store n (11 : Int32) v3) fun (v4, M5) =>
    some (v4, M5)
  else
    some ((0 : Int32), v2)
set_option maxRecDepth 100000 in
set_option maxHeartbeats 8000000 in
theorem b_X8_poly {p : Program} {l : Launch} {e : Env} {s : State} {m : MethodId} {args : Array Value} {below : List Frame} {meth : Method} {c : Code} {Q : State → Prop} {G : gG} {A : Nat → Prop} {adr : Nat → Nat} (cx : cX p s m args meth c cX8_poly (some .int) 1 yX8_poly.cls) (hi : adi adr) {n : Nat} {M M' : Mem} {r : Int32} 
    (h : f_X8_poly n M = some (r, M'))
    (kr : ∀ (pc : Nat) (ls : Array Slot) (H : Heap) (locs : List Loc), decode cX8_poly pc = .ok (.ireturn, 1) → wH G A s.heap s (LL adr) (wf G adr M') H locs → W p l e { frames := 2, cells := 0, slots := 0, locals := 44 } s m args below meth c H locs 0 0 Q (F0 m pc ls [.int r]))
    {ls : Array Slot} {H : Heap} {locs : List Loc} (hl : lv_has ls 1 [(0, .ref (adr 36))]) (hw : wH G A s.heap s (LL adr) (wf G adr M) H locs) : W p l e { frames := 2, cells := 0, slots := 0, locals := 44 } s m args below meth c H locs 0 0 Q (F0 m 0 ls []) := by
  obtain ⟨hx, hb, -, -, hown, hts, -⟩ := id cx
  have hown : s.vm.findClass RX8 = some m.cls := hown
  unfold f_X8_poly at h
  refine lv_aload_n hx hb dX8_poly_0 rfl (lv_at hl 0 rfl) ?_
  refine lv_aload_n hx hb dX8_poly_1 rfl (lv_at hl 0 rfl) ?_
  refine m_get (k := 36) (C := RX8) (T := TX8) (N := 18) (ref := "LiftFactorsModel") (v := .int (M.2 36 2)) hx hb hi hts inX8_u hown hw (by decide) rfl 2 (by decide) q_16 rfl rfl dX8_poly_2 ?_
  refine lv_bipush (v := (80 : Int32)) hx hb dX8_poly_5 (by decide) ?_
  replace h := bnd h
  obtain ⟨v1, j6, h⟩ := h
  have kj : ∀ (ls : Array Slot) (H : Heap) (locs : List Loc), lv_has ls 1 [(0, .ref (adr 36))] → wH G A s.heap s (LL adr) (wf G adr M) H locs → W p l e { frames := 2, cells := 0, slots := 0, locals := 44 } s m args below meth c H locs 0 0 Q (F0 m 15 ls [.int v1, .ref (adr 36)]) := by
    intro ls H locs hl hw
    replace h := bnd h
    obtain ⟨v2, e2, h⟩ := h
    obtain rfl := pt_s e2
    refine m_putI (k := 36) (C := RX8) (T := TX8) (N := 18) (ref := "LiftFactorsModel") hx hb hi hts inX8_u tyX8 tyX8_ok nmX8 hown hw (by decide) rfl 3 (by decide) q_171 rfl rfl (by decide +kernel) rfl dX8_poly_15 (fun H locs hw => ?_)
    obtain ⟨v2, e2⟩ : ∃ z9, z9 = sI M 36 3 v1 := ⟨_, rfl⟩
    rw [← e2] at h hw
    refine lv_aload_n hx hb dX8_poly_18 rfl (lv_at hl 0 rfl) ?_
    refine m_get (k := 36) (C := RX8) (T := TX8) (N := 18) (ref := "LiftFactorsModel") (v := .int (v2.2 36 3)) hx hb hi hts inX8_u hown hw (by decide) rfl 3 (by decide) q_171 rfl rfl dX8_poly_19 ?_
    refine lv_if_eq (tgt := 27) hx hb dX8_poly_22 (by decide) (fun hc => ?_) (fun hc => ?_)
    · replace h := ite_t hc h
      refine lv_aload_n hx hb dX8_poly_27 rfl (lv_at hl 0 rfl) ?_
      refine lv_bipush (v := (11 : Int32)) hx hb dX8_poly_28 (by decide) ?_
      refine lv_lconst (v := (0 : Int64)) hx hb dX8_poly_30 (by decide) ?_
      replace h := bnd h
      obtain ⟨v3, e3, h⟩ := h
      refine m_callVv (k := 36) (As := [.int (11 : Int32), .long (0 : Int64)]) (rest := []) cx.fix hi hw (cc_X8_constant (l := l) (G := G) (sz := H.size) hi e3) (by decide) rfl rfl (w_cV 2 hts q_47 q_48 q_49 q_50 q_51 rfl rfl (by decide) (by decide)) hl.1 rfl (lv_room (Nat.le_of_ble_eq_true rfl)) dX8_poly_31 (fun H locs hw => ?_)
      refine lv_aload_n hx hb dX8_poly_34 rfl (lv_at hl 0 rfl) ?_
      refine lv_bipush (v := (11 : Int32)) hx hb dX8_poly_35 (by decide) ?_
      replace h := bnd h
      obtain ⟨⟨v4, M5⟩, e4, h⟩ := h
      refine m_callVi (k := 36) (As := [.int (11 : Int32)]) (rest := []) cx.fix hi hw (cc_X8_store (l := l) (G := G) (sz := H.size) hi e4) (by decide) rfl rfl (w_cV 1 hts q_204 q_205 q_206 q_207 q_208 rfl rfl (by decide) (by decide)) hl.1 rfl (lv_room (Nat.le_of_ble_eq_true rfl)) dX8_poly_37 (fun H locs hw => ?_)
      cases h
      exact kr _ _ _ _ dX8_poly_40 hw
    · replace h := ite_f hc h
      refine lv_iconst (v := (0 : Int32)) hx hb dX8_poly_25 (by decide) ?_
      cases h
      exact kr _ _ _ _ dX8_poly_26 hw
  clear h
  replace h := j6
  clear j6
  refine lv_icmp_ne (tgt := 14) hx hb dX8_poly_7 (by decide) (fun hc => ?_) (fun hc => ?_)
  · replace h := ite_f hc h
    refine lv_iconst (v := (0 : Int32)) hx hb dX8_poly_14 (by decide) ?_
    cases h
    exact kj _ _ _ (lv_sub hl [0] rfl) hw
  · replace h := ite_t hc h
    refine lv_iconst (v := (1 : Int32)) hx hb dX8_poly_10 (by decide) ?_
    refine lv_goto (tgt := 15) hx hb dX8_poly_11 (by decide) ?_
    cases h
    exact kj _ _ _ (lv_sub hl [0] rfl) hw
theorem cc_X8_poly {l : Launch} {G : gG} {adr : Nat → Nat} {sz : Nat} (hi : adi adr) {n : Nat} {M M' : Mem} {r : Int32} (h : f_X8_poly n M = some (r, M')) : mI l yX8_poly cX8_poly 1 (some .int) { frames := 2, cells := 0, slots := 0, locals := 44 } G adr [.ref (adr 36)] M sz r M' := by
  refine wEnter (by decide) (Nat.le_of_ble_eq_true rfl) ?_
  intro p e s m below meth c ls cx hinit hl hsz hw
  exact b_X8_poly cx hi h (fun pc ls H locs hd hw => w_iret (post := fun (r9 : Int32) (u : Mem) => r9 = r ∧ u = M') (lf := fun u => (LL adr, wf G adr u)) cx.1 cx.2.1 cx.2.2.1 cx.2.2.2.2.2.2 M' hw ⟨rfl, rfl⟩ hd) hl hw
theorem q_210 : Cond.methodLink RX8 208 yX8_isPower ∈ uU := uU_in (by decide +kernel) (by decide +kernel)
theorem q_211 : Cond.static yX8_isPower ∈ uU := uU_in (by decide +kernel) (by decide +kernel)
theorem q_212 : Cond.initialized yX8_isPower.cls ∈ uU := uU_in (by decide +kernel) (by decide +kernel)
theorem q_213 : Cond.code yX8_isPower cX8_isPower 1 (some .boolean) ∈ uU := uU_in (by decide +kernel) (by decide +kernel)
def f_X8_set (a0 : Int32) (a1 : Int32) (a2 : Int32) (M : Mem) : Option (Int32 × Mem) :=
  Option.bind (f_X8_isPoly a0) fun v1 =>
  Option.bind (
    if v1 = 0 then
      some (1 : Int32)
    else
      Option.bind (f_X8_isPower a1) fun v2 =>
      if v2 = 0 then
        some (1 : Int32)
      else
        if a2 < (-9999 : Int32) then
          some (2 : Int32)
        else
          if a2 ≤ (9999 : Int32) then
            some (0 : Int32)
          else
            some (2 : Int32)) fun v3 =>
  Option.bind (ptI M 36 3 v3) fun v4 =>
  if (v4.2 36 3) = 0 then
    Option.bind (ldI v4 38 (((11 : Int32) * a0) + a1)) fun v5 =>
    Option.bind (
      if v5 = a2 then
        some (0 : Int32)
      else
        some (1 : Int32)) fun v6 =>
    Option.bind (stI v4 38 (((11 : Int32) * a0) + a1) a2) fun v7 =>
    Option.bind (bz v6) fun v8 =>
    some (v8, v7)
  else
    some ((0 : Int32), v4)
set_option maxRecDepth 100000 in
set_option maxHeartbeats 8000000 in
theorem b_X8_set {p : Program} {l : Launch} {e : Env} {s : State} {m : MethodId} {args : Array Value} {below : List Frame} {meth : Method} {c : Code} {Q : State → Prop} {G : gG} {A : Nat → Prop} {adr : Nat → Nat} (cx : cX p s m args meth c cX8_set (some .boolean) 5 yX8_set.cls) (hi : adi adr) {a0 : Int32} {a1 : Int32} {a2 : Int32} {M M' : Mem} {r : Int32} 
    (h : f_X8_set a0 a1 a2 M = some (r, M'))
    (kr : ∀ (pc : Nat) (ls : Array Slot) (H : Heap) (locs : List Loc), decode cX8_set pc = .ok (.ireturn, 1) → narrow .boolean (.int r) = .int r → wH G A s.heap s (LL adr) (wf G adr M') H locs → W p l e { frames := 1, cells := 0, slots := 0, locals := 20 } s m args below meth c H locs 0 0 Q (F0 m pc ls [.int r]))
    {ls : Array Slot} {H : Heap} {locs : List Loc} (hl : lv_has ls 5 [(0, .ref (adr 36)), (1, .int a0), (2, .int a1), (3, .int a2)]) (hw : wH G A s.heap s (LL adr) (wf G adr M) H locs) : W p l e { frames := 1, cells := 0, slots := 0, locals := 20 } s m args below meth c H locs 0 0 Q (F0 m 0 ls []) := by
  obtain ⟨hx, hb, -, -, hown, hts, -⟩ := id cx
  have hown : s.vm.findClass RX8 = some m.cls := hown
  unfold f_X8_set at h
  refine lv_aload_n hx hb dX8_set_0 rfl (lv_at hl 0 rfl) ?_
  refine lv_iload_n hx hb dX8_set_1 rfl (lv_at hl 1 rfl) ?_
  replace h := bnd h
  obtain ⟨v1, e1, h⟩ := h
  refine m_callSi (As := [.int a0]) (rest := [.ref (adr 36)]) cx.fix hw (cc_X8_isPoly (l := l) (G := G) (sz := H.size) (M := M) hi e1) (w_cS 1 hts q_167 q_168 q_169 q_170 rfl rfl (by decide) (by decide)) hl.1 rfl (lv_room (Nat.le_of_ble_eq_true rfl)) dX8_set_2 (fun H locs hw => ?_)
  replace h := bnd h
  obtain ⟨v3, j10, h⟩ := h
  have kj : ∀ (ls : Array Slot) (H : Heap) (locs : List Loc), lv_has ls 5 [(0, .ref (adr 36)), (1, .int a0), (2, .int a1), (3, .int a2)] → wH G A s.heap s (LL adr) (wf G adr M) H locs → W p l e { frames := 1, cells := 0, slots := 0, locals := 20 } s m args below meth c H locs 0 0 Q (F0 m 38 ls [.int v3, .ref (adr 36)]) := by
    intro ls H locs hl hw
    replace h := bnd h
    obtain ⟨v4, e4, h⟩ := h
    obtain rfl := pt_s e4
    refine m_putI (k := 36) (C := RX8) (T := TX8) (N := 18) (ref := "LiftFactorsModel") hx hb hi hts inX8_u tyX8 tyX8_ok nmX8 hown hw (by decide) rfl 3 (by decide) q_171 rfl rfl (by decide +kernel) rfl dX8_set_38 (fun H locs hw => ?_)
    obtain ⟨v4, e4⟩ : ∃ z9, z9 = sI M 36 3 v3 := ⟨_, rfl⟩
    rw [← e4] at h hw
    refine lv_aload_n hx hb dX8_set_41 rfl (lv_at hl 0 rfl) ?_
    refine m_get (k := 36) (C := RX8) (T := TX8) (N := 18) (ref := "LiftFactorsModel") (v := .int (v4.2 36 3)) hx hb hi hts inX8_u hown hw (by decide) rfl 3 (by decide) q_171 rfl rfl dX8_set_42 ?_
    refine lv_if_eq (tgt := 50) hx hb dX8_set_45 (by decide) (fun hc => ?_) (fun hc => ?_)
    · replace h := ite_t hc h
      refine lv_aload_n hx hb dX8_set_50 rfl (lv_at hl 0 rfl) ?_
      refine m_get (k := 36) (C := RX8) (T := TX8) (N := 18) (ref := "LiftFactorsModel") (v := .ref (adr 38)) hx hb hi hts inX8_u hown hw (by decide) rfl 1 (by decide) q_10 rfl rfl dX8_set_51 ?_
      refine lv_bipush (v := (11 : Int32)) hx hb dX8_set_54 (by decide) ?_
      refine lv_iload_n hx hb dX8_set_56 rfl (lv_at hl 1 rfl) ?_
      refine lv_imul hx hb dX8_set_57 ?_
      refine lv_iload_n hx hb dX8_set_58 rfl (lv_at hl 2 rfl) ?_
      refine lv_iadd hx hb dX8_set_59 ?_
      replace h := bnd h
      obtain ⟨v5, e5, h⟩ := h
      refine m_iald hx hb hi hw e5 dX8_set_60 ?_
      refine lv_iload_n hx hb dX8_set_61 rfl (lv_at hl 3 rfl) ?_
      replace h := bnd h
      obtain ⟨v6, j9, h⟩ := h
      have kj : ∀ (ls : Array Slot) (H : Heap) (locs : List Loc), lv_has ls 5 [(0, .ref (adr 36)), (1, .int a0), (2, .int a1), (3, .int a2)] → wH G A s.heap s (LL adr) (wf G adr v4) H locs → W p l e { frames := 1, cells := 0, slots := 0, locals := 20 } s m args below meth c H locs 0 0 Q (F0 m 70 ls [.int v6]) := by
        intro ls H locs hl hw
        refine lv_istore (lv' := [(4, .int v6), (0, .ref (adr 36)), (1, .int a0), (2, .int a1), (3, .int a2)]) hx hb dX8_set_70 hl (by decide) rfl (fun ls hl => ?_)
        refine lv_aload_n hx hb dX8_set_72 rfl (lv_at hl 1 rfl) ?_
        refine m_get (k := 36) (C := RX8) (T := TX8) (N := 18) (ref := "LiftFactorsModel") (v := .ref (adr 38)) hx hb hi hts inX8_u hown hw (by decide) rfl 1 (by decide) q_10 rfl rfl dX8_set_73 ?_
        refine lv_bipush (v := (11 : Int32)) hx hb dX8_set_76 (by decide) ?_
        refine lv_iload_n hx hb dX8_set_78 rfl (lv_at hl 2 rfl) ?_
        refine lv_imul hx hb dX8_set_79 ?_
        refine lv_iload_n hx hb dX8_set_80 rfl (lv_at hl 3 rfl) ?_
        refine lv_iadd hx hb dX8_set_81 ?_
        refine lv_iload_n hx hb dX8_set_82 rfl (lv_at hl 4 rfl) ?_
        replace h := bnd h
        obtain ⟨v7, e7, h⟩ := h
        refine m_iast hx hb hi hw e7 dX8_set_83 (fun H locs hw => ?_)
        refine lv_iload hx hb dX8_set_84 (lv_at hl 0 rfl) ?_
        replace h := bnd h
        obtain ⟨v8, e9, h⟩ := h
        obtain ⟨rfl, e9⟩ := bz_ok e9
        cases h
        exact kr _ _ _ _ dX8_set_86 e9 hw
      clear h
      replace h := j9
      clear j9
      refine lv_icmp_eq (tgt := 69) hx hb dX8_set_62 (by decide) (fun hc => ?_) (fun hc => ?_)
      · replace h := ite_t hc h
        refine lv_iconst (v := (0 : Int32)) hx hb dX8_set_69 (by decide) ?_
        cases h
        exact kj _ _ _ (lv_sub hl [0, 1, 2, 3] rfl) hw
      · replace h := ite_f hc h
        refine lv_iconst (v := (1 : Int32)) hx hb dX8_set_65 (by decide) ?_
        refine lv_goto (tgt := 70) hx hb dX8_set_66 (by decide) ?_
        cases h
        exact kj _ _ _ (lv_sub hl [0, 1, 2, 3] rfl) hw
    · replace h := ite_f hc h
      refine lv_iconst (v := (0 : Int32)) hx hb dX8_set_48 (by decide) ?_
      cases h
      exact kr _ _ _ _ dX8_set_49 (by decide) hw
  clear h
  replace h := j10
  clear j10
  refine lv_if_eq (tgt := 15) hx hb dX8_set_5 (by decide) (fun hc => ?_) (fun hc => ?_)
  · replace h := ite_t hc h
    refine lv_iconst (v := (1 : Int32)) hx hb dX8_set_15 (by decide) ?_
    refine lv_goto (tgt := 38) hx hb dX8_set_16 (by decide) ?_
    cases h
    exact kj _ _ _ (lv_sub hl [0, 1, 2, 3] rfl) hw
  · replace h := ite_f hc h
    refine lv_iload_n hx hb dX8_set_8 rfl (lv_at hl 2 rfl) ?_
    replace h := bnd h
    obtain ⟨v2, e2, h⟩ := h
    refine m_callSi (As := [.int a1]) (rest := [.ref (adr 36)]) cx.fix hw (cc_X8_isPower (l := l) (G := G) (sz := H.size) (M := M) hi e2) (w_cS 1 hts q_210 q_211 q_212 q_213 rfl rfl (by decide) (by decide)) hl.1 rfl (lv_room (Nat.le_of_ble_eq_true rfl)) dX8_set_9 (fun H locs hw => ?_)
    refine lv_if_ne (tgt := 19) hx hb dX8_set_12 (by decide) (fun hc => ?_) (fun hc => ?_)
    · replace h := ite_f hc h
      refine lv_iload_n hx hb dX8_set_19 rfl (lv_at hl 3 rfl) ?_
      refine lv_sipush (v := (-9999 : Int32)) hx hb dX8_set_20 (by decide) ?_
      refine lv_icmp_lt (tgt := 33) hx hb dX8_set_23 (by decide) (fun hc => ?_) (fun hc => ?_)
      · replace h := ite_t hc h
        refine lv_iconst (v := (2 : Int32)) hx hb dX8_set_33 (by decide) ?_
        refine lv_goto (tgt := 38) hx hb dX8_set_34 (by decide) ?_
        cases h
        exact kj _ _ _ (lv_sub hl [0, 1, 2, 3] rfl) hw
      · replace h := ite_f hc h
        refine lv_iload_n hx hb dX8_set_26 rfl (lv_at hl 3 rfl) ?_
        refine lv_sipush (v := (9999 : Int32)) hx hb dX8_set_27 (by decide) ?_
        refine lv_icmp_le (tgt := 37) hx hb dX8_set_30 (by decide) (fun hc => ?_) (fun hc => ?_)
        · replace h := ite_t hc h
          refine lv_iconst (v := (0 : Int32)) hx hb dX8_set_37 (by decide) ?_
          cases h
          exact kj _ _ _ (lv_sub hl [0, 1, 2, 3] rfl) hw
        · replace h := ite_f hc h
          refine lv_iconst (v := (2 : Int32)) hx hb dX8_set_33 (by decide) ?_
          refine lv_goto (tgt := 38) hx hb dX8_set_34 (by decide) ?_
          cases h
          exact kj _ _ _ (lv_sub hl [0, 1, 2, 3] rfl) hw
    · replace h := ite_t hc h
      refine lv_iconst (v := (1 : Int32)) hx hb dX8_set_15 (by decide) ?_
      refine lv_goto (tgt := 38) hx hb dX8_set_16 (by decide) ?_
      cases h
      exact kj _ _ _ (lv_sub hl [0, 1, 2, 3] rfl) hw
theorem cc_X8_set {l : Launch} {G : gG} {adr : Nat → Nat} {sz : Nat} (hi : adi adr) {a0 : Int32} {a1 : Int32} {a2 : Int32} {M M' : Mem} {r : Int32} (h : f_X8_set a0 a1 a2 M = some (r, M')) : mI l yX8_set cX8_set 5 (some .boolean) { frames := 1, cells := 0, slots := 0, locals := 20 } G adr [.ref (adr 36), .int a0, .int a1, .int a2] M sz r M' := by
  refine wEnter (by decide) (Nat.le_of_ble_eq_true rfl) ?_
  intro p e s m below meth c ls cx hinit hl hsz hw
  exact b_X8_set cx hi h (fun pc ls H locs hd hz hw => w_zret (post := fun (r9 : Int32) (u : Mem) => r9 = r ∧ u = M') (lf := fun u => (LL adr, wf G adr u)) cx.1 cx.2.1 cx.2.2.1 cx.2.2.2.2.2.2 hz M' hw ⟨rfl, rfl⟩ hd) hl hw
def f_X8_at (a0 : Int32) (a1 : Int32) (M : Mem) : Option (Int32 × Mem) :=
  Option.bind (f_X8_isPoly a0) fun v1 =>
  Option.bind (
    if v1 = 0 then
      some (1 : Int32)
    else
      Option.bind (f_X8_isPower a1) fun v2 =>
      if v2 = 0 then
        some (1 : Int32)
      else
        some (0 : Int32)) fun v3 =>
  Option.bind (ptI M 36 3 v3) fun v4 =>
  Option.bind (
    if (v4.2 36 3) = 0 then
      Option.bind (ldI v4 38 (((11 : Int32) * a0) + a1)) fun v5 =>
      some v5
    else
      some (0 : Int32)) fun v6 =>
  some (v6, v4)
set_option maxRecDepth 100000 in
set_option maxHeartbeats 8000000 in
theorem b_X8_at {p : Program} {l : Launch} {e : Env} {s : State} {m : MethodId} {args : Array Value} {below : List Frame} {meth : Method} {c : Code} {Q : State → Prop} {G : gG} {A : Nat → Prop} {adr : Nat → Nat} (cx : cX p s m args meth c cX8_at (some .int) 3 yX8_at.cls) (hi : adi adr) {a0 : Int32} {a1 : Int32} {M M' : Mem} {r : Int32} 
    (h : f_X8_at a0 a1 M = some (r, M'))
    (kr : ∀ (pc : Nat) (ls : Array Slot) (H : Heap) (locs : List Loc), decode cX8_at pc = .ok (.ireturn, 1) → wH G A s.heap s (LL adr) (wf G adr M') H locs → W p l e { frames := 1, cells := 0, slots := 0, locals := 20 } s m args below meth c H locs 0 0 Q (F0 m pc ls [.int r]))
    {ls : Array Slot} {H : Heap} {locs : List Loc} (hl : lv_has ls 3 [(0, .ref (adr 36)), (1, .int a0), (2, .int a1)]) (hw : wH G A s.heap s (LL adr) (wf G adr M) H locs) : W p l e { frames := 1, cells := 0, slots := 0, locals := 20 } s m args below meth c H locs 0 0 Q (F0 m 0 ls []) := by
  obtain ⟨hx, hb, -, -, hown, hts, -⟩ := id cx
  have hown : s.vm.findClass RX8 = some m.cls := hown
  unfold f_X8_at at h
  refine lv_aload_n hx hb dX8_at_0 rfl (lv_at hl 0 rfl) ?_
  refine lv_iload_n hx hb dX8_at_1 rfl (lv_at hl 1 rfl) ?_
  replace h := bnd h
  obtain ⟨v1, e1, h⟩ := h
  refine m_callSi (As := [.int a0]) (rest := [.ref (adr 36)]) cx.fix hw (cc_X8_isPoly (l := l) (G := G) (sz := H.size) (M := M) hi e1) (w_cS 1 hts q_167 q_168 q_169 q_170 rfl rfl (by decide) (by decide)) hl.1 rfl (lv_room (Nat.le_of_ble_eq_true rfl)) dX8_at_2 (fun H locs hw => ?_)
  replace h := bnd h
  obtain ⟨v3, j8, h⟩ := h
  have kj : ∀ (ls : Array Slot) (H : Heap) (locs : List Loc), lv_has ls 3 [(0, .ref (adr 36)), (1, .int a0), (2, .int a1)] → wH G A s.heap s (LL adr) (wf G adr M) H locs → W p l e { frames := 1, cells := 0, slots := 0, locals := 20 } s m args below meth c H locs 0 0 Q (F0 m 20 ls [.int v3, .ref (adr 36)]) := by
    intro ls H locs hl hw
    replace h := bnd h
    obtain ⟨v4, e4, h⟩ := h
    obtain rfl := pt_s e4
    refine m_putI (k := 36) (C := RX8) (T := TX8) (N := 18) (ref := "LiftFactorsModel") hx hb hi hts inX8_u tyX8 tyX8_ok nmX8 hown hw (by decide) rfl 3 (by decide) q_171 rfl rfl (by decide +kernel) rfl dX8_at_20 (fun H locs hw => ?_)
    obtain ⟨v4, e4⟩ : ∃ z9, z9 = sI M 36 3 v3 := ⟨_, rfl⟩
    rw [← e4] at h hw
    refine lv_aload_n hx hb dX8_at_23 rfl (lv_at hl 0 rfl) ?_
    refine m_get (k := 36) (C := RX8) (T := TX8) (N := 18) (ref := "LiftFactorsModel") (v := .int (v4.2 36 3)) hx hb hi hts inX8_u hown hw (by decide) rfl 3 (by decide) q_171 rfl rfl dX8_at_24 ?_
    replace h := bnd h
    obtain ⟨v6, j7, h⟩ := h
    have kj : ∀ (ls : Array Slot) (H : Heap) (locs : List Loc), lv_has ls 3 [] → wH G A s.heap s (LL adr) (wf G adr v4) H locs → W p l e { frames := 1, cells := 0, slots := 0, locals := 20 } s m args below meth c H locs 0 0 Q (F0 m 45 ls [.int v6]) := by
      intro ls H locs hl hw
      cases h
      exact kr _ _ _ _ dX8_at_45 hw
    clear h
    replace h := j7
    clear j7
    refine lv_if_eq (tgt := 34) hx hb dX8_at_27 (by decide) (fun hc => ?_) (fun hc => ?_)
    · replace h := ite_t hc h
      refine lv_aload_n hx hb dX8_at_34 rfl (lv_at hl 0 rfl) ?_
      refine m_get (k := 36) (C := RX8) (T := TX8) (N := 18) (ref := "LiftFactorsModel") (v := .ref (adr 38)) hx hb hi hts inX8_u hown hw (by decide) rfl 1 (by decide) q_10 rfl rfl dX8_at_35 ?_
      refine lv_bipush (v := (11 : Int32)) hx hb dX8_at_38 (by decide) ?_
      refine lv_iload_n hx hb dX8_at_40 rfl (lv_at hl 1 rfl) ?_
      refine lv_imul hx hb dX8_at_41 ?_
      refine lv_iload_n hx hb dX8_at_42 rfl (lv_at hl 2 rfl) ?_
      refine lv_iadd hx hb dX8_at_43 ?_
      replace h := bnd h
      obtain ⟨v5, e5, h⟩ := h
      refine m_iald hx hb hi hw e5 dX8_at_44 ?_
      cases h
      exact kj _ _ _ (lv_sub hl [] rfl) hw
    · replace h := ite_f hc h
      refine lv_iconst (v := (0 : Int32)) hx hb dX8_at_30 (by decide) ?_
      refine lv_goto (tgt := 45) hx hb dX8_at_31 (by decide) ?_
      cases h
      exact kj _ _ _ (lv_sub hl [] rfl) hw
  clear h
  replace h := j8
  clear j8
  refine lv_if_eq (tgt := 19) hx hb dX8_at_5 (by decide) (fun hc => ?_) (fun hc => ?_)
  · replace h := ite_t hc h
    refine lv_iconst (v := (1 : Int32)) hx hb dX8_at_19 (by decide) ?_
    cases h
    exact kj _ _ _ (lv_sub hl [0, 1, 2] rfl) hw
  · replace h := ite_f hc h
    refine lv_iload_n hx hb dX8_at_8 rfl (lv_at hl 2 rfl) ?_
    replace h := bnd h
    obtain ⟨v2, e2, h⟩ := h
    refine m_callSi (As := [.int a1]) (rest := [.ref (adr 36)]) cx.fix hw (cc_X8_isPower (l := l) (G := G) (sz := H.size) (M := M) hi e2) (w_cS 1 hts q_210 q_211 q_212 q_213 rfl rfl (by decide) (by decide)) hl.1 rfl (lv_room (Nat.le_of_ble_eq_true rfl)) dX8_at_9 (fun H locs hw => ?_)
    refine lv_if_eq (tgt := 19) hx hb dX8_at_12 (by decide) (fun hc => ?_) (fun hc => ?_)
    · replace h := ite_t hc h
      refine lv_iconst (v := (1 : Int32)) hx hb dX8_at_19 (by decide) ?_
      cases h
      exact kj _ _ _ (lv_sub hl [0, 1, 2] rfl) hw
    · replace h := ite_f hc h
      refine lv_iconst (v := (0 : Int32)) hx hb dX8_at_15 (by decide) ?_
      refine lv_goto (tgt := 20) hx hb dX8_at_16 (by decide) ?_
      cases h
      exact kj _ _ _ (lv_sub hl [0, 1, 2] rfl) hw
theorem cc_X8_at {l : Launch} {G : gG} {adr : Nat → Nat} {sz : Nat} (hi : adi adr) {a0 : Int32} {a1 : Int32} {M M' : Mem} {r : Int32} (h : f_X8_at a0 a1 M = some (r, M')) : mI l yX8_at cX8_at 3 (some .int) { frames := 1, cells := 0, slots := 0, locals := 20 } G adr [.ref (adr 36), .int a0, .int a1] M sz r M' := by
  refine wEnter (by decide) (Nat.le_of_ble_eq_true rfl) ?_
  intro p e s m below meth c ls cx hinit hl hsz hw
  exact b_X8_at cx hi h (fun pc ls H locs hd hw => w_iret (post := fun (r9 : Int32) (u : Mem) => r9 = r ∧ u = M') (lf := fun u => (LL adr, wf G adr u)) cx.1 cx.2.1 cx.2.2.1 cx.2.2.2.2.2.2 M' hw ⟨rfl, rfl⟩ hd) hl hw
def f_X8_refuses (n : Nat) (a0 : Int32) (a1 : Int32) (M : Mem) : Option (Int32 × Mem) :=
  Option.bind (f_X8_isPoly a0) fun v1 =>
  Option.bind (
    if v1 = 0 then
      some (1 : Int32)
    else
      Option.bind (f_X8_isPoly a1) fun v2 =>
      if v2 = 0 then
        some (1 : Int32)
      else
        if (M.2 36 2) = (80 : Int32) then
          some (2 : Int32)
        else
          some (0 : Int32)) fun v3 =>
  Option.bind (ptI M 36 3 v3) fun v4 =>
  if (v4.2 36 3) = 0 then
    Option.bind (f_X8_load n a0 (0 : Int32) v4) fun v5 =>
    Option.bind (f_X8_load n a1 (1 : Int32) v5) fun v6 =>
    some ((0 : Int32), v6)
  else
    some ((1 : Int32), v4)
set_option maxRecDepth 100000 in
set_option maxHeartbeats 8000000 in
theorem b_X8_refuses {p : Program} {l : Launch} {e : Env} {s : State} {m : MethodId} {args : Array Value} {below : List Frame} {meth : Method} {c : Code} {Q : State → Prop} {G : gG} {A : Nat → Prop} {adr : Nat → Nat} (cx : cX p s m args meth c cX8_refuses (some .boolean) 3 yX8_refuses.cls) (hi : adi adr) {n : Nat} {a0 : Int32} {a1 : Int32} {M M' : Mem} {r : Int32} 
    (h : f_X8_refuses n a0 a1 M = some (r, M'))
    (kr : ∀ (pc : Nat) (ls : Array Slot) (H : Heap) (locs : List Loc), decode cX8_refuses pc = .ok (.ireturn, 1) → narrow .boolean (.int r) = .int r → wH G A s.heap s (LL adr) (wf G adr M') H locs → W p l e { frames := 2, cells := 0, slots := 0, locals := 46 } s m args below meth c H locs 0 0 Q (F0 m pc ls [.int r]))
    {ls : Array Slot} {H : Heap} {locs : List Loc} (hl : lv_has ls 3 [(0, .ref (adr 36)), (1, .int a0), (2, .int a1)]) (hw : wH G A s.heap s (LL adr) (wf G adr M) H locs) : W p l e { frames := 2, cells := 0, slots := 0, locals := 46 } s m args below meth c H locs 0 0 Q (F0 m 0 ls []) := by
  obtain ⟨hx, hb, -, -, hown, hts, -⟩ := id cx
  have hown : s.vm.findClass RX8 = some m.cls := hown
  unfold f_X8_refuses at h
  refine lv_aload_n hx hb dX8_refuses_0 rfl (lv_at hl 0 rfl) ?_
  refine lv_iload_n hx hb dX8_refuses_1 rfl (lv_at hl 1 rfl) ?_
  replace h := bnd h
  obtain ⟨v1, e1, h⟩ := h
  refine m_callSi (As := [.int a0]) (rest := [.ref (adr 36)]) cx.fix hw (cc_X8_isPoly (l := l) (G := G) (sz := H.size) (M := M) hi e1) (w_cS 1 hts q_167 q_168 q_169 q_170 rfl rfl (by decide) (by decide)) hl.1 rfl (lv_room (Nat.le_of_ble_eq_true rfl)) dX8_refuses_2 (fun H locs hw => ?_)
  replace h := bnd h
  obtain ⟨v3, j7, h⟩ := h
  have kj : ∀ (ls : Array Slot) (H : Heap) (locs : List Loc), lv_has ls 3 [(0, .ref (adr 36)), (1, .int a0), (2, .int a1)] → wH G A s.heap s (LL adr) (wf G adr M) H locs → W p l e { frames := 2, cells := 0, slots := 0, locals := 46 } s m args below meth c H locs 0 0 Q (F0 m 33 ls [.int v3, .ref (adr 36)]) := by
    intro ls H locs hl hw
    replace h := bnd h
    obtain ⟨v4, e4, h⟩ := h
    obtain rfl := pt_s e4
    refine m_putI (k := 36) (C := RX8) (T := TX8) (N := 18) (ref := "LiftFactorsModel") hx hb hi hts inX8_u tyX8 tyX8_ok nmX8 hown hw (by decide) rfl 3 (by decide) q_171 rfl rfl (by decide +kernel) rfl dX8_refuses_33 (fun H locs hw => ?_)
    obtain ⟨v4, e4⟩ : ∃ z9, z9 = sI M 36 3 v3 := ⟨_, rfl⟩
    rw [← e4] at h hw
    refine lv_aload_n hx hb dX8_refuses_36 rfl (lv_at hl 0 rfl) ?_
    refine m_get (k := 36) (C := RX8) (T := TX8) (N := 18) (ref := "LiftFactorsModel") (v := .int (v4.2 36 3)) hx hb hi hts inX8_u hown hw (by decide) rfl 3 (by decide) q_171 rfl rfl dX8_refuses_37 ?_
    refine lv_if_eq (tgt := 45) hx hb dX8_refuses_40 (by decide) (fun hc => ?_) (fun hc => ?_)
    · replace h := ite_t hc h
      refine lv_aload_n hx hb dX8_refuses_45 rfl (lv_at hl 0 rfl) ?_
      refine lv_iload_n hx hb dX8_refuses_46 rfl (lv_at hl 1 rfl) ?_
      refine lv_iconst (v := (0 : Int32)) hx hb dX8_refuses_47 (by decide) ?_
      replace h := bnd h
      obtain ⟨v5, e5, h⟩ := h
      refine m_callVv (k := 36) (As := [.int a0, .int (0 : Int32)]) (rest := []) cx.fix hi hw (cc_X8_load (l := l) (G := G) (sz := H.size) hi e5) (by decide) rfl rfl (w_cV 2 hts q_172 q_173 q_174 q_175 q_176 rfl rfl (by decide) (by decide)) hl.1 rfl (lv_room (Nat.le_of_ble_eq_true rfl)) dX8_refuses_48 (fun H locs hw => ?_)
      refine lv_aload_n hx hb dX8_refuses_51 rfl (lv_at hl 0 rfl) ?_
      refine lv_iload_n hx hb dX8_refuses_52 rfl (lv_at hl 2 rfl) ?_
      refine lv_iconst (v := (1 : Int32)) hx hb dX8_refuses_53 (by decide) ?_
      replace h := bnd h
      obtain ⟨v6, e6, h⟩ := h
      refine m_callVv (k := 36) (As := [.int a1, .int (1 : Int32)]) (rest := []) cx.fix hi hw (cc_X8_load (l := l) (G := G) (sz := H.size) hi e6) (by decide) rfl rfl (w_cV 2 hts q_172 q_173 q_174 q_175 q_176 rfl rfl (by decide) (by decide)) hl.1 rfl (lv_room (Nat.le_of_ble_eq_true rfl)) dX8_refuses_54 (fun H locs hw => ?_)
      refine lv_iconst (v := (0 : Int32)) hx hb dX8_refuses_57 (by decide) ?_
      cases h
      exact kr _ _ _ _ dX8_refuses_58 (by decide) hw
    · replace h := ite_f hc h
      refine lv_iconst (v := (1 : Int32)) hx hb dX8_refuses_43 (by decide) ?_
      cases h
      exact kr _ _ _ _ dX8_refuses_44 (by decide) hw
  clear h
  replace h := j7
  clear j7
  refine lv_if_eq (tgt := 15) hx hb dX8_refuses_5 (by decide) (fun hc => ?_) (fun hc => ?_)
  · replace h := ite_t hc h
    refine lv_iconst (v := (1 : Int32)) hx hb dX8_refuses_15 (by decide) ?_
    refine lv_goto (tgt := 33) hx hb dX8_refuses_16 (by decide) ?_
    cases h
    exact kj _ _ _ (lv_sub hl [0, 1, 2] rfl) hw
  · replace h := ite_f hc h
    refine lv_iload_n hx hb dX8_refuses_8 rfl (lv_at hl 2 rfl) ?_
    replace h := bnd h
    obtain ⟨v2, e2, h⟩ := h
    refine m_callSi (As := [.int a1]) (rest := [.ref (adr 36)]) cx.fix hw (cc_X8_isPoly (l := l) (G := G) (sz := H.size) (M := M) hi e2) (w_cS 1 hts q_167 q_168 q_169 q_170 rfl rfl (by decide) (by decide)) hl.1 rfl (lv_room (Nat.le_of_ble_eq_true rfl)) dX8_refuses_9 (fun H locs hw => ?_)
    refine lv_if_ne (tgt := 19) hx hb dX8_refuses_12 (by decide) (fun hc => ?_) (fun hc => ?_)
    · replace h := ite_f hc h
      refine lv_aload_n hx hb dX8_refuses_19 rfl (lv_at hl 0 rfl) ?_
      refine m_get (k := 36) (C := RX8) (T := TX8) (N := 18) (ref := "LiftFactorsModel") (v := .int (M.2 36 2)) hx hb hi hts inX8_u hown hw (by decide) rfl 2 (by decide) q_16 rfl rfl dX8_refuses_20 ?_
      refine lv_bipush (v := (80 : Int32)) hx hb dX8_refuses_23 (by decide) ?_
      refine lv_icmp_ne (tgt := 32) hx hb dX8_refuses_25 (by decide) (fun hc => ?_) (fun hc => ?_)
      · replace h := ite_f hc h
        refine lv_iconst (v := (0 : Int32)) hx hb dX8_refuses_32 (by decide) ?_
        cases h
        exact kj _ _ _ (lv_sub hl [0, 1, 2] rfl) hw
      · replace h := ite_t hc h
        refine lv_iconst (v := (2 : Int32)) hx hb dX8_refuses_28 (by decide) ?_
        refine lv_goto (tgt := 33) hx hb dX8_refuses_29 (by decide) ?_
        cases h
        exact kj _ _ _ (lv_sub hl [0, 1, 2] rfl) hw
    · replace h := ite_t hc h
      refine lv_iconst (v := (1 : Int32)) hx hb dX8_refuses_15 (by decide) ?_
      refine lv_goto (tgt := 33) hx hb dX8_refuses_16 (by decide) ?_
      cases h
      exact kj _ _ _ (lv_sub hl [0, 1, 2] rfl) hw
theorem cc_X8_refuses {l : Launch} {G : gG} {adr : Nat → Nat} {sz : Nat} (hi : adi adr) {n : Nat} {a0 : Int32} {a1 : Int32} {M M' : Mem} {r : Int32} (h : f_X8_refuses n a0 a1 M = some (r, M')) : mI l yX8_refuses cX8_refuses 3 (some .boolean) { frames := 2, cells := 0, slots := 0, locals := 46 } G adr [.ref (adr 36), .int a0, .int a1] M sz r M' := by
  refine wEnter (by decide) (Nat.le_of_ble_eq_true rfl) ?_
  intro p e s m below meth c ls cx hinit hl hsz hw
  exact b_X8_refuses cx hi h (fun pc ls H locs hd hz hw => w_zret (post := fun (r9 : Int32) (u : Mem) => r9 = r ∧ u = M') (lf := fun u => (LL adr, wf G adr u)) cx.1 cx.2.1 cx.2.2.1 cx.2.2.2.2.2.2 hz M' hw ⟨rfl, rfl⟩ hd) hl hw
theorem q_214 : Cond.methodLink RX8 211 yX8_refuses ∈ uU := uU_in (by decide +kernel) (by decide +kernel)
theorem q_215 : Cond.instanceMethod yX8_refuses ∈ uU := uU_in (by decide +kernel) (by decide +kernel)
theorem q_216 : Cond.selects yX8_refuses.cls yX8_refuses yX8_refuses ∈ uU := uU_in (by decide +kernel) (by decide +kernel)
theorem q_217 : Cond.initialized yX8_refuses.cls ∈ uU := uU_in (by decide +kernel) (by decide +kernel)
theorem q_218 : Cond.code yX8_refuses cX8_refuses 3 (some .boolean) ∈ uU := uU_in (by decide +kernel) (by decide +kernel)
def l_X8_times_50 (v7 : Int32) : Mem × Int32 → Option ((Mem) ⊕ (Mem × Int32)) := fun (M8, v9) =>
  if v7 < v9 then
    some (.inl M8)
  else
    Option.bind (stJ M8 41 ((264 : Int32) + v9) (0 : Int64)) fun v10 =>
    some (.inr (v10, v9 + 1))
def l_X8_times_95 (v14 : Int32) : Mem × Int32 → Option ((Mem) ⊕ (Mem × Int32)) := fun (M16, v17) =>
  Option.bind (ldI M16 42 (1 : Int32)) fun v18 =>
  if v18 < v17 then
    some (.inl M16)
  else
    Option.bind (ldJ M16 41 (((264 : Int32) + v14) + v17)) fun v19 =>
    Option.bind (ldJ M16 41 ((0 : Int32) + v14)) fun v20 =>
    Option.bind (ldJ M16 41 ((24 : Int32) + v17)) fun v21 =>
    Option.bind (stJ M16 41 (((264 : Int32) + v14) + v17) (v19 + (v20 * v21))) fun v22 =>
    some (.inr (v22, v17 + 1))
def l_X8_times_77 (n : Nat) (v7 : Int32) : Mem × Int32 → Option ((Mem) ⊕ (Mem × Int32)) := fun (M13, v14) =>
  Option.bind (ldI M13 42 (0 : Int32)) fun v15 =>
  if v15 < v14 then
    some (.inl M13)
  else
    if v7 < 0 then
      some (.inl M13)
    else
      Option.bind (lpF (l_X8_times_95 v14) n (M13, (0 : Int32))) fun M24 =>
      some (.inr (M24, v14 + 1))
def f_X8_times (n : Nat) (a0 : Int32) (a1 : Int32) (M : Mem) : Option (Int32 × Mem) :=
  Option.bind (f_X8_refuses n a0 a1 M) fun (v1, M2) =>
  if v1 = 0 then
    Option.bind (ldI M2 42 (0 : Int32)) fun v3 =>
    Option.bind (
      if v3 < 0 then
        some (-1 : Int32)
      else
        Option.bind (ldI M2 42 (1 : Int32)) fun v4 =>
        if 0 ≤ v4 then
          Option.bind (ldI M2 42 (0 : Int32)) fun v5 =>
          Option.bind (ldI M2 42 (1 : Int32)) fun v6 =>
          some (v5 + v6)
        else
          some (-1 : Int32)) fun v7 =>
    Option.bind (lpF (l_X8_times_50 v7) n (M2, (0 : Int32))) fun M12 =>
    Option.bind (lpF (l_X8_times_77 n v7) n (M12, (0 : Int32))) fun M26 =>
    Option.bind (f_X8_trim n (11 : Int32) v7 M26) fun v27 =>
    Option.bind (f_X8_great n (11 : Int32) v27) fun v28 =>
    Option.bind (
      if v28 = 0 then
        some (0 : Int32)
      else
        some (3 : Int32)) fun v29 =>
    Option.bind (ptI v27 36 3 v29) fun v30 =>
    Option.bind (
      if (v30.2 36 3) = 0 then
        Option.bind (f_X8_store n (11 : Int32) v30) fun (v31, M32) =>
        some (M32, v31)
      else
        some (v30, (0 : Int32))) fun (M33, v34) =>
    some (v34, M33)
  else
    some ((0 : Int32), M2)
set_option maxRecDepth 100000 in
set_option maxHeartbeats 8000000 in
theorem b_X8_times {p : Program} {l : Launch} {e : Env} {s : State} {m : MethodId} {args : Array Value} {below : List Frame} {meth : Method} {c : Code} {Q : State → Prop} {G : gG} {A : Nat → Prop} {adr : Nat → Nat} (cx : cX p s m args meth c cX8_times (some .int) 6 yX8_times.cls) (hi : adi adr) {n : Nat} {a0 : Int32} {a1 : Int32} {M M' : Mem} {r : Int32} 
    (h : f_X8_times n a0 a1 M = some (r, M'))
    (kr : ∀ (pc : Nat) (ls : Array Slot) (H : Heap) (locs : List Loc), decode cX8_times pc = .ok (.ireturn, 1) → wH G A s.heap s (LL adr) (wf G adr M') H locs → W p l e { frames := 3, cells := 0, slots := 0, locals := 68 } s m args below meth c H locs 0 0 Q (F0 m pc ls [.int r]))
    {ls : Array Slot} {H : Heap} {locs : List Loc} (hl : lv_has ls 6 [(0, .ref (adr 36)), (1, .int a0), (2, .int a1)]) (hw : wH G A s.heap s (LL adr) (wf G adr M) H locs) : W p l e { frames := 3, cells := 0, slots := 0, locals := 68 } s m args below meth c H locs 0 0 Q (F0 m 0 ls []) := by
  obtain ⟨hx, hb, -, -, hown, hts, -⟩ := id cx
  have hown : s.vm.findClass RX8 = some m.cls := hown
  unfold f_X8_times at h
  refine lv_aload_n hx hb dX8_times_0 rfl (lv_at hl 0 rfl) ?_
  refine lv_iload_n hx hb dX8_times_1 rfl (lv_at hl 1 rfl) ?_
  refine lv_iload_n hx hb dX8_times_2 rfl (lv_at hl 2 rfl) ?_
  replace h := bnd h
  obtain ⟨⟨v1, M2⟩, e1, h⟩ := h
  refine m_callVi (k := 36) (As := [.int a0, .int a1]) (rest := []) cx.fix hi hw (cc_X8_refuses (l := l) (G := G) (sz := H.size) hi e1) (by decide) rfl rfl (w_cV 2 hts q_214 q_215 q_216 q_217 q_218 rfl rfl (by decide) (by decide)) hl.1 rfl (lv_room (Nat.le_of_ble_eq_true rfl)) dX8_times_3 (fun H locs hw => ?_)
  refine lv_if_eq (tgt := 11) hx hb dX8_times_6 (by decide) (fun hc => ?_) (fun hc => ?_)
  · replace h := ite_t hc h
    refine lv_aload_n hx hb dX8_times_11 rfl (lv_at hl 0 rfl) ?_
    refine m_get (k := 36) (C := RX8) (T := TX8) (N := 18) (ref := "LiftFactorsModel") (v := .ref (adr 42)) hx hb hi hts inX8_u hown hw (by decide) rfl 8 (by decide) q_1 rfl rfl dX8_times_12 ?_
    refine lv_iconst (v := (0 : Int32)) hx hb dX8_times_15 (by decide) ?_
    replace h := bnd h
    obtain ⟨v3, e3, h⟩ := h
    refine m_iald hx hb hi hw e3 dX8_times_16 ?_
    replace h := bnd h
    obtain ⟨v7, j37, h⟩ := h
    have kj : ∀ (ls : Array Slot) (H : Heap) (locs : List Loc), lv_has ls 6 [(0, .ref (adr 36))] → wH G A s.heap s (LL adr) (wf G adr M2) H locs → W p l e { frames := 3, cells := 0, slots := 0, locals := 68 } s m args below meth c H locs 0 0 Q (F0 m 46 ls [.int v7]) := by
      intro ls H locs hl hw
      refine lv_istore_n (lv' := [(3, .int v7), (0, .ref (adr 36))]) hx hb dX8_times_46 rfl hl (by decide) rfl (fun ls hl => ?_)
      refine lv_iconst (v := (0 : Int32)) hx hb dX8_times_47 (by decide) ?_
      refine lv_istore (lv' := [(4, .int (0 : Int32)), (3, .int v7), (0, .ref (adr 36))]) hx hb dX8_times_48 hl (by decide) rfl (fun ls hl => ?_)
      replace h := bnd h
      obtain ⟨M12, j11, h⟩ := h
      refine lp_W (Wst := fun (st : Mem × Int32) => ∀ (ls : Array Slot) (H : Heap) (locs : List Loc), lv_has ls 6 [(0, .ref (adr 36)), (3, .int v7), (4, .int st.2)] → wH G A s.heap s (LL adr) (wf G adr st.1) H locs → W p l e { frames := 3, cells := 0, slots := 0, locals := 68 } s m args below meth c H locs 0 0 Q (F0 m 50 ls [])) (fin := fun (r : Mem) => ∀ (ls : Array Slot) (H : Heap) (locs : List Loc), lv_has ls 6 [(0, .ref (adr 36)), (3, .int v7)] → wH G A s.heap s (LL adr) (wf G adr r) H locs → W p l e { frames := 3, cells := 0, slots := 0, locals := 68 } s m args below meth c H locs 0 0 Q (F0 m 74 ls [])) ?_ n _ _ j11 ?_ _ _ _ (lv_sub hl [2, 1, 0] rfl) hw
      · clear h j11 hw hl
        intro ⟨M8, v9⟩ x h k1 k2 ls H locs hl hw
        (try dsimp only at k1 k2 hl hw ⊢)
        unfold l_X8_times_50 at h
        (try dsimp only at h)
        refine lv_iload hx hb dX8_times_50 (lv_at hl 2 rfl) ?_
        refine lv_iload_n hx hb dX8_times_52 rfl (lv_at hl 1 rfl) ?_
        refine lv_icmp_gt (tgt := 74) hx hb dX8_times_53 (by decide) (fun hc => ?_) (fun hc => ?_)
        · replace h := ite_t hc h
          cases h
          exact k1 _ rfl _ _ _ (lv_sub hl [0, 1] rfl) hw
        · replace h := ite_f hc h
          refine lv_aload_n hx hb dX8_times_56 rfl (lv_at hl 0 rfl) ?_
          refine m_get (k := 36) (C := RX8) (T := TX8) (N := 18) (ref := "LiftFactorsModel") (v := .ref (adr 41)) hx hb hi hts inX8_u hown hw (by decide) rfl 7 (by decide) q_0 rfl rfl dX8_times_57 ?_
          refine lv_sipush (v := (264 : Int32)) hx hb dX8_times_60 (by decide) ?_
          refine lv_iload hx hb dX8_times_63 (lv_at hl 2 rfl) ?_
          refine lv_iadd hx hb dX8_times_65 ?_
          refine lv_lconst (v := (0 : Int64)) hx hb dX8_times_66 (by decide) ?_
          replace h := bnd h
          obtain ⟨v10, e10, h⟩ := h
          refine m_last hx hb hi hw e10 dX8_times_67 (fun H locs hw => ?_)
          refine lv_iinc (v := v9 + 1) (lv' := [(4, .int (v9 + 1)), (0, .ref (adr 36)), (3, .int v7)]) hx hb dX8_times_68 hl (k := 2) rfl (inc_p _ (by decide)) (by decide) rfl (fun ls hl => ?_)
          refine lv_goto (tgt := 50) hx hb dX8_times_71 (by decide) ?_
          cases h
          exact k2 _ rfl _ _ _ (lv_sub hl [1, 2, 0] rfl) hw
      · clear hw hl
        intro ls H locs hl hw
        (try dsimp only at hl hw ⊢)
        refine lv_iconst (v := (0 : Int32)) hx hb dX8_times_74 (by decide) ?_
        refine lv_istore (lv' := [(4, .int (0 : Int32)), (0, .ref (adr 36)), (3, .int v7)]) hx hb dX8_times_75 hl (by decide) rfl (fun ls hl => ?_)
        replace h := bnd h
        obtain ⟨M26, j25, h⟩ := h
        refine lp_W (Wst := fun (st : Mem × Int32) => ∀ (ls : Array Slot) (H : Heap) (locs : List Loc), lv_has ls 6 [(0, .ref (adr 36)), (3, .int v7), (4, .int st.2)] → wH G A s.heap s (LL adr) (wf G adr st.1) H locs → W p l e { frames := 3, cells := 0, slots := 0, locals := 68 } s m args below meth c H locs 0 0 Q (F0 m 77 ls [])) (fin := fun (r : Mem) => ∀ (ls : Array Slot) (H : Heap) (locs : List Loc), lv_has ls 6 [(0, .ref (adr 36)), (3, .int v7)] → wH G A s.heap s (LL adr) (wf G adr r) H locs → W p l e { frames := 3, cells := 0, slots := 0, locals := 68 } s m args below meth c H locs 0 0 Q (F0 m 155 ls [])) ?_ n _ _ j25 ?_ _ _ _ (lv_sub hl [1, 2, 0] rfl) hw
        · clear h j25 hw hl
          intro ⟨M13, v14⟩ x h k1 k2 ls H locs hl hw
          (try dsimp only at k1 k2 hl hw ⊢)
          unfold l_X8_times_77 at h
          (try dsimp only at h)
          refine lv_iload hx hb dX8_times_77 (lv_at hl 2 rfl) ?_
          refine lv_aload_n hx hb dX8_times_79 rfl (lv_at hl 0 rfl) ?_
          refine m_get (k := 36) (C := RX8) (T := TX8) (N := 18) (ref := "LiftFactorsModel") (v := .ref (adr 42)) hx hb hi hts inX8_u hown hw (by decide) rfl 8 (by decide) q_1 rfl rfl dX8_times_80 ?_
          refine lv_iconst (v := (0 : Int32)) hx hb dX8_times_83 (by decide) ?_
          replace h := bnd h
          obtain ⟨v15, e15, h⟩ := h
          refine m_iald hx hb hi hw e15 dX8_times_84 ?_
          refine lv_icmp_gt (tgt := 155) hx hb dX8_times_85 (by decide) (fun hc => ?_) (fun hc => ?_)
          · replace h := ite_t hc h
            cases h
            exact k1 _ rfl _ _ _ (lv_sub hl [0, 1] rfl) hw
          · replace h := ite_f hc h
            refine lv_iload_n hx hb dX8_times_88 rfl (lv_at hl 1 rfl) ?_
            refine lv_if_lt (tgt := 155) hx hb dX8_times_89 (by decide) (fun hc => ?_) (fun hc => ?_)
            · replace h := ite_t hc h
              cases h
              exact k1 _ rfl _ _ _ (lv_sub hl [0, 1] rfl) hw
            · replace h := ite_f hc h
              refine lv_iconst (v := (0 : Int32)) hx hb dX8_times_92 (by decide) ?_
              refine lv_istore (lv' := [(5, .int (0 : Int32)), (0, .ref (adr 36)), (3, .int v7), (4, .int v14)]) hx hb dX8_times_93 hl (by decide) rfl (fun ls hl => ?_)
              replace h := bnd h
              obtain ⟨M24, j23, h⟩ := h
              refine lp_W (Wst := fun (st : Mem × Int32) => ∀ (ls : Array Slot) (H : Heap) (locs : List Loc), lv_has ls 6 [(0, .ref (adr 36)), (3, .int v7), (4, .int v14), (5, .int st.2)] → wH G A s.heap s (LL adr) (wf G adr st.1) H locs → W p l e { frames := 3, cells := 0, slots := 0, locals := 68 } s m args below meth c H locs 0 0 Q (F0 m 95 ls [])) (fin := fun (r : Mem) => ∀ (ls : Array Slot) (H : Heap) (locs : List Loc), lv_has ls 6 [(0, .ref (adr 36)), (3, .int v7), (4, .int v14)] → wH G A s.heap s (LL adr) (wf G adr r) H locs → W p l e { frames := 3, cells := 0, slots := 0, locals := 68 } s m args below meth c H locs 0 0 Q (F0 m 149 ls [])) ?_ n _ _ j23 ?_ _ _ _ (lv_sub hl [1, 2, 3, 0] rfl) hw
              · clear h j23 hw hl
                intro ⟨M16, v17⟩ x h k1 k2 ls H locs hl hw
                (try dsimp only at k1 k2 hl hw ⊢)
                unfold l_X8_times_95 at h
                (try dsimp only at h)
                refine lv_iload hx hb dX8_times_95 (lv_at hl 3 rfl) ?_
                refine lv_aload_n hx hb dX8_times_97 rfl (lv_at hl 0 rfl) ?_
                refine m_get (k := 36) (C := RX8) (T := TX8) (N := 18) (ref := "LiftFactorsModel") (v := .ref (adr 42)) hx hb hi hts inX8_u hown hw (by decide) rfl 8 (by decide) q_1 rfl rfl dX8_times_98 ?_
                refine lv_iconst (v := (1 : Int32)) hx hb dX8_times_101 (by decide) ?_
                replace h := bnd h
                obtain ⟨v18, e18, h⟩ := h
                refine m_iald hx hb hi hw e18 dX8_times_102 ?_
                refine lv_icmp_gt (tgt := 149) hx hb dX8_times_103 (by decide) (fun hc => ?_) (fun hc => ?_)
                · replace h := ite_t hc h
                  cases h
                  exact k1 _ rfl _ _ _ (lv_sub hl [0, 1, 2] rfl) hw
                · replace h := ite_f hc h
                  refine lv_aload_n hx hb dX8_times_106 rfl (lv_at hl 0 rfl) ?_
                  refine m_get (k := 36) (C := RX8) (T := TX8) (N := 18) (ref := "LiftFactorsModel") (v := .ref (adr 41)) hx hb hi hts inX8_u hown hw (by decide) rfl 7 (by decide) q_0 rfl rfl dX8_times_107 ?_
                  refine lv_sipush (v := (264 : Int32)) hx hb dX8_times_110 (by decide) ?_
                  refine lv_iload hx hb dX8_times_113 (lv_at hl 2 rfl) ?_
                  refine lv_iadd hx hb dX8_times_115 ?_
                  refine lv_iload hx hb dX8_times_116 (lv_at hl 3 rfl) ?_
                  refine lv_iadd hx hb dX8_times_118 ?_
                  refine lv_dup2_11 hx hb dX8_times_119 rfl rfl ?_
                  replace h := bnd h
                  obtain ⟨v19, e19, h⟩ := h
                  refine m_lald hx hb hi hw e19 dX8_times_120 ?_
                  refine lv_aload_n hx hb dX8_times_121 rfl (lv_at hl 0 rfl) ?_
                  refine m_get (k := 36) (C := RX8) (T := TX8) (N := 18) (ref := "LiftFactorsModel") (v := .ref (adr 41)) hx hb hi hts inX8_u hown hw (by decide) rfl 7 (by decide) q_0 rfl rfl dX8_times_122 ?_
                  refine lv_iconst (v := (0 : Int32)) hx hb dX8_times_125 (by decide) ?_
                  refine lv_iload hx hb dX8_times_126 (lv_at hl 2 rfl) ?_
                  refine lv_iadd hx hb dX8_times_128 ?_
                  replace h := bnd h
                  obtain ⟨v20, e20, h⟩ := h
                  refine m_lald hx hb hi hw e20 dX8_times_129 ?_
                  refine lv_aload_n hx hb dX8_times_130 rfl (lv_at hl 0 rfl) ?_
                  refine m_get (k := 36) (C := RX8) (T := TX8) (N := 18) (ref := "LiftFactorsModel") (v := .ref (adr 41)) hx hb hi hts inX8_u hown hw (by decide) rfl 7 (by decide) q_0 rfl rfl dX8_times_131 ?_
                  refine lv_bipush (v := (24 : Int32)) hx hb dX8_times_134 (by decide) ?_
                  refine lv_iload hx hb dX8_times_136 (lv_at hl 3 rfl) ?_
                  refine lv_iadd hx hb dX8_times_138 ?_
                  replace h := bnd h
                  obtain ⟨v21, e21, h⟩ := h
                  refine m_lald hx hb hi hw e21 dX8_times_139 ?_
                  refine lv_lmul hx hb dX8_times_140 ?_
                  refine lv_ladd hx hb dX8_times_141 ?_
                  replace h := bnd h
                  obtain ⟨v22, e22, h⟩ := h
                  refine m_last hx hb hi hw e22 dX8_times_142 (fun H locs hw => ?_)
                  refine lv_iinc (v := v17 + 1) (lv' := [(5, .int (v17 + 1)), (0, .ref (adr 36)), (3, .int v7), (4, .int v14)]) hx hb dX8_times_143 hl (k := 3) rfl (inc_p _ (by decide)) (by decide) rfl (fun ls hl => ?_)
                  refine lv_goto (tgt := 95) hx hb dX8_times_146 (by decide) ?_
                  cases h
                  exact k2 _ rfl _ _ _ (lv_sub hl [1, 2, 3, 0] rfl) hw
              · clear hw hl
                intro ls H locs hl hw
                (try dsimp only at hl hw ⊢)
                refine lv_iinc (v := v14 + 1) (lv' := [(4, .int (v14 + 1)), (0, .ref (adr 36)), (3, .int v7)]) hx hb dX8_times_149 hl (k := 2) rfl (inc_p _ (by decide)) (by decide) rfl (fun ls hl => ?_)
                refine lv_goto (tgt := 77) hx hb dX8_times_152 (by decide) ?_
                cases h
                exact k2 _ rfl _ _ _ (lv_sub hl [1, 2, 0] rfl) hw
        · clear hw hl
          intro ls H locs hl hw
          (try dsimp only at hl hw ⊢)
          refine lv_aload_n hx hb dX8_times_155 rfl (lv_at hl 0 rfl) ?_
          refine lv_bipush (v := (11 : Int32)) hx hb dX8_times_156 (by decide) ?_
          refine lv_iload_n hx hb dX8_times_158 rfl (lv_at hl 1 rfl) ?_
          replace h := bnd h
          obtain ⟨v27, e27, h⟩ := h
          refine m_callVv (k := 36) (As := [.int (11 : Int32), .int v7]) (rest := []) cx.fix hi hw (cc_X8_trim (l := l) (G := G) (sz := H.size) hi e27) (by decide) rfl rfl (w_cV 2 hts q_11 q_12 q_13 q_14 q_15 rfl rfl (by decide) (by decide)) hl.1 rfl (lv_room (Nat.le_of_ble_eq_true rfl)) dX8_times_159 (fun H locs hw => ?_)
          refine lv_aload_n hx hb dX8_times_162 rfl (lv_at hl 0 rfl) ?_
          refine lv_aload_n hx hb dX8_times_163 rfl (lv_at hl 0 rfl) ?_
          refine lv_bipush (v := (11 : Int32)) hx hb dX8_times_164 (by decide) ?_
          replace h := bnd h
          obtain ⟨v28, e28, h⟩ := h
          refine m_callVi (k := 36) (As := [.int (11 : Int32)]) (rest := [.ref (adr 36)]) cx.fix hi hw (cc_X8_great (l := l) (G := G) (sz := H.size) hi e28) (by decide) rfl rfl (w_cV 1 hts q_197 q_198 q_199 q_200 q_201 rfl rfl (by decide) (by decide)) hl.1 rfl (lv_room (Nat.le_of_ble_eq_true rfl)) dX8_times_166 (fun H locs hw => ?_)
          replace h := bnd h
          obtain ⟨v29, j36, h⟩ := h
          have kj : ∀ (ls : Array Slot) (H : Heap) (locs : List Loc), lv_has ls 6 [(0, .ref (adr 36))] → wH G A s.heap s (LL adr) (wf G adr v27) H locs → W p l e { frames := 3, cells := 0, slots := 0, locals := 68 } s m args below meth c H locs 0 0 Q (F0 m 177 ls [.int v29, .ref (adr 36)]) := by
            intro ls H locs hl hw
            replace h := bnd h
            obtain ⟨v30, e30, h⟩ := h
            obtain rfl := pt_s e30
            refine m_putI (k := 36) (C := RX8) (T := TX8) (N := 18) (ref := "LiftFactorsModel") hx hb hi hts inX8_u tyX8 tyX8_ok nmX8 hown hw (by decide) rfl 3 (by decide) q_171 rfl rfl (by decide +kernel) rfl dX8_times_177 (fun H locs hw => ?_)
            obtain ⟨v30, e30⟩ : ∃ z9, z9 = sI v27 36 3 v29 := ⟨_, rfl⟩
            rw [← e30] at h hw
            refine lv_aload_n hx hb dX8_times_180 rfl (lv_at hl 0 rfl) ?_
            refine m_get (k := 36) (C := RX8) (T := TX8) (N := 18) (ref := "LiftFactorsModel") (v := .int (v30.2 36 3)) hx hb hi hts inX8_u hown hw (by decide) rfl 3 (by decide) q_171 rfl rfl dX8_times_181 ?_
            replace h := bnd h
            obtain ⟨⟨M33, v34⟩, j35, h⟩ := h
            have kj : ∀ (ls : Array Slot) (H : Heap) (locs : List Loc), lv_has ls 6 [] → wH G A s.heap s (LL adr) (wf G adr M33) H locs → W p l e { frames := 3, cells := 0, slots := 0, locals := 68 } s m args below meth c H locs 0 0 Q (F0 m 197 ls [.int v34]) := by
              intro ls H locs hl hw
              cases h
              exact kr _ _ _ _ dX8_times_197 hw
            clear h
            replace h := j35
            clear j35
            refine lv_if_eq (tgt := 191) hx hb dX8_times_184 (by decide) (fun hc => ?_) (fun hc => ?_)
            · replace h := ite_t hc h
              refine lv_aload_n hx hb dX8_times_191 rfl (lv_at hl 0 rfl) ?_
              refine lv_bipush (v := (11 : Int32)) hx hb dX8_times_192 (by decide) ?_
              replace h := bnd h
              obtain ⟨⟨v31, M32⟩, e31, h⟩ := h
              refine m_callVi (k := 36) (As := [.int (11 : Int32)]) (rest := []) cx.fix hi hw (cc_X8_store (l := l) (G := G) (sz := H.size) hi e31) (by decide) rfl rfl (w_cV 1 hts q_204 q_205 q_206 q_207 q_208 rfl rfl (by decide) (by decide)) hl.1 rfl (lv_room (Nat.le_of_ble_eq_true rfl)) dX8_times_194 (fun H locs hw => ?_)
              cases h
              exact kj _ _ _ (lv_sub hl [] rfl) hw
            · replace h := ite_f hc h
              refine lv_iconst (v := (0 : Int32)) hx hb dX8_times_187 (by decide) ?_
              refine lv_goto (tgt := 197) hx hb dX8_times_188 (by decide) ?_
              cases h
              exact kj _ _ _ (lv_sub hl [] rfl) hw
          clear h
          replace h := j36
          clear j36
          refine lv_if_eq (tgt := 176) hx hb dX8_times_169 (by decide) (fun hc => ?_) (fun hc => ?_)
          · replace h := ite_t hc h
            refine lv_iconst (v := (0 : Int32)) hx hb dX8_times_176 (by decide) ?_
            cases h
            exact kj _ _ _ (lv_sub hl [0] rfl) hw
          · replace h := ite_f hc h
            refine lv_iconst (v := (3 : Int32)) hx hb dX8_times_172 (by decide) ?_
            refine lv_goto (tgt := 177) hx hb dX8_times_173 (by decide) ?_
            cases h
            exact kj _ _ _ (lv_sub hl [0] rfl) hw
    clear h
    replace h := j37
    clear j37
    refine lv_if_lt (tgt := 29) hx hb dX8_times_17 (by decide) (fun hc => ?_) (fun hc => ?_)
    · replace h := ite_t hc h
      refine lv_iconst (v := (-1 : Int32)) hx hb dX8_times_29 (by decide) ?_
      refine lv_goto (tgt := 46) hx hb dX8_times_30 (by decide) ?_
      cases h
      exact kj _ _ _ (lv_sub hl [0] rfl) hw
    · replace h := ite_f hc h
      refine lv_aload_n hx hb dX8_times_20 rfl (lv_at hl 0 rfl) ?_
      refine m_get (k := 36) (C := RX8) (T := TX8) (N := 18) (ref := "LiftFactorsModel") (v := .ref (adr 42)) hx hb hi hts inX8_u hown hw (by decide) rfl 8 (by decide) q_1 rfl rfl dX8_times_21 ?_
      refine lv_iconst (v := (1 : Int32)) hx hb dX8_times_24 (by decide) ?_
      replace h := bnd h
      obtain ⟨v4, e4, h⟩ := h
      refine m_iald hx hb hi hw e4 dX8_times_25 ?_
      refine lv_if_ge (tgt := 33) hx hb dX8_times_26 (by decide) (fun hc => ?_) (fun hc => ?_)
      · replace h := ite_t hc h
        refine lv_aload_n hx hb dX8_times_33 rfl (lv_at hl 0 rfl) ?_
        refine m_get (k := 36) (C := RX8) (T := TX8) (N := 18) (ref := "LiftFactorsModel") (v := .ref (adr 42)) hx hb hi hts inX8_u hown hw (by decide) rfl 8 (by decide) q_1 rfl rfl dX8_times_34 ?_
        refine lv_iconst (v := (0 : Int32)) hx hb dX8_times_37 (by decide) ?_
        replace h := bnd h
        obtain ⟨v5, e5, h⟩ := h
        refine m_iald hx hb hi hw e5 dX8_times_38 ?_
        refine lv_aload_n hx hb dX8_times_39 rfl (lv_at hl 0 rfl) ?_
        refine m_get (k := 36) (C := RX8) (T := TX8) (N := 18) (ref := "LiftFactorsModel") (v := .ref (adr 42)) hx hb hi hts inX8_u hown hw (by decide) rfl 8 (by decide) q_1 rfl rfl dX8_times_40 ?_
        refine lv_iconst (v := (1 : Int32)) hx hb dX8_times_43 (by decide) ?_
        replace h := bnd h
        obtain ⟨v6, e6, h⟩ := h
        refine m_iald hx hb hi hw e6 dX8_times_44 ?_
        refine lv_iadd hx hb dX8_times_45 ?_
        cases h
        exact kj _ _ _ (lv_sub hl [0] rfl) hw
      · replace h := ite_f hc h
        refine lv_iconst (v := (-1 : Int32)) hx hb dX8_times_29 (by decide) ?_
        refine lv_goto (tgt := 46) hx hb dX8_times_30 (by decide) ?_
        cases h
        exact kj _ _ _ (lv_sub hl [0] rfl) hw
  · replace h := ite_f hc h
    refine lv_iconst (v := (0 : Int32)) hx hb dX8_times_9 (by decide) ?_
    cases h
    exact kr _ _ _ _ dX8_times_10 hw
theorem cc_X8_times {l : Launch} {G : gG} {adr : Nat → Nat} {sz : Nat} (hi : adi adr) {n : Nat} {a0 : Int32} {a1 : Int32} {M M' : Mem} {r : Int32} (h : f_X8_times n a0 a1 M = some (r, M')) : mI l yX8_times cX8_times 6 (some .int) { frames := 3, cells := 0, slots := 0, locals := 68 } G adr [.ref (adr 36), .int a0, .int a1] M sz r M' := by
  refine wEnter (by decide) (Nat.le_of_ble_eq_true rfl) ?_
  intro p e s m below meth c ls cx hinit hl hsz hw
  exact b_X8_times cx hi h (fun pc ls H locs hd hw => w_iret (post := fun (r9 : Int32) (u : Mem) => r9 = r ∧ u = M') (lf := fun u => (LL adr, wf G adr u)) cx.1 cx.2.1 cx.2.2.1 cx.2.2.2.2.2.2 M' hw ⟨rfl, rfl⟩ hd) hl hw
def f_X8_over (n : Nat) (a0 : Int32) (a1 : Int32) (M : Mem) : Option (Int32 × Mem) :=
  Option.bind (f_X8_refuses n a0 a1 M) fun (v1, M2) =>
  if v1 = 0 then
    Option.bind (ldI M2 42 (1 : Int32)) fun v3 =>
    Option.bind (
      if 0 ≤ v3 then
        some (0 : Int32)
      else
        some (3 : Int32)) fun v4 =>
    Option.bind (ptI M2 36 3 v4) fun v5 =>
    if (v5.2 36 3) = 0 then
      Option.bind (f_X8_divides n (1 : Int32) (0 : Int32) (9999 : Int64) v5) fun (v6, M7) =>
      Option.bind (
        if v6 = 0 then
          some (M7, (-1 : Int32))
        else
          Option.bind (f_X8_store n (3 : Int32) M7) fun (v8, M9) =>
          some (M9, v8)) fun (M10, v11) =>
      some (v11, M10)
    else
      some ((0 : Int32), v5)
  else
    some ((0 : Int32), M2)
set_option maxRecDepth 100000 in
set_option maxHeartbeats 8000000 in
theorem b_X8_over {p : Program} {l : Launch} {e : Env} {s : State} {m : MethodId} {args : Array Value} {below : List Frame} {meth : Method} {c : Code} {Q : State → Prop} {G : gG} {A : Nat → Prop} {adr : Nat → Nat} (cx : cX p s m args meth c cX8_over (some .int) 3 yX8_over.cls) (hi : adi adr) {n : Nat} {a0 : Int32} {a1 : Int32} {M M' : Mem} {r : Int32} 
    (h : f_X8_over n a0 a1 M = some (r, M'))
    (kr : ∀ (pc : Nat) (ls : Array Slot) (H : Heap) (locs : List Loc), decode cX8_over pc = .ok (.ireturn, 1) → wH G A s.heap s (LL adr) (wf G adr M') H locs → W p l e { frames := 3, cells := 0, slots := 0, locals := 68 } s m args below meth c H locs 0 0 Q (F0 m pc ls [.int r]))
    {ls : Array Slot} {H : Heap} {locs : List Loc} (hl : lv_has ls 3 [(0, .ref (adr 36)), (1, .int a0), (2, .int a1)]) (hw : wH G A s.heap s (LL adr) (wf G adr M) H locs) : W p l e { frames := 3, cells := 0, slots := 0, locals := 68 } s m args below meth c H locs 0 0 Q (F0 m 0 ls []) := by
  obtain ⟨hx, hb, -, -, hown, hts, -⟩ := id cx
  have hown : s.vm.findClass RX8 = some m.cls := hown
  unfold f_X8_over at h
  refine lv_aload_n hx hb dX8_over_0 rfl (lv_at hl 0 rfl) ?_
  refine lv_iload_n hx hb dX8_over_1 rfl (lv_at hl 1 rfl) ?_
  refine lv_iload_n hx hb dX8_over_2 rfl (lv_at hl 2 rfl) ?_
  replace h := bnd h
  obtain ⟨⟨v1, M2⟩, e1, h⟩ := h
  refine m_callVi (k := 36) (As := [.int a0, .int a1]) (rest := []) cx.fix hi hw (cc_X8_refuses (l := l) (G := G) (sz := H.size) hi e1) (by decide) rfl rfl (w_cV 2 hts q_214 q_215 q_216 q_217 q_218 rfl rfl (by decide) (by decide)) hl.1 rfl (lv_room (Nat.le_of_ble_eq_true rfl)) dX8_over_3 (fun H locs hw => ?_)
  refine lv_if_eq (tgt := 11) hx hb dX8_over_6 (by decide) (fun hc => ?_) (fun hc => ?_)
  · replace h := ite_t hc h
    refine lv_aload_n hx hb dX8_over_11 rfl (lv_at hl 0 rfl) ?_
    refine lv_aload_n hx hb dX8_over_12 rfl (lv_at hl 0 rfl) ?_
    refine m_get (k := 36) (C := RX8) (T := TX8) (N := 18) (ref := "LiftFactorsModel") (v := .ref (adr 42)) hx hb hi hts inX8_u hown hw (by decide) rfl 8 (by decide) q_1 rfl rfl dX8_over_13 ?_
    refine lv_iconst (v := (1 : Int32)) hx hb dX8_over_16 (by decide) ?_
    replace h := bnd h
    obtain ⟨v3, e3, h⟩ := h
    refine m_iald hx hb hi hw e3 dX8_over_17 ?_
    replace h := bnd h
    obtain ⟨v4, j13, h⟩ := h
    have kj : ∀ (ls : Array Slot) (H : Heap) (locs : List Loc), lv_has ls 3 [(0, .ref (adr 36))] → wH G A s.heap s (LL adr) (wf G adr M2) H locs → W p l e { frames := 3, cells := 0, slots := 0, locals := 68 } s m args below meth c H locs 0 0 Q (F0 m 26 ls [.int v4, .ref (adr 36)]) := by
      intro ls H locs hl hw
      replace h := bnd h
      obtain ⟨v5, e5, h⟩ := h
      obtain rfl := pt_s e5
      refine m_putI (k := 36) (C := RX8) (T := TX8) (N := 18) (ref := "LiftFactorsModel") hx hb hi hts inX8_u tyX8 tyX8_ok nmX8 hown hw (by decide) rfl 3 (by decide) q_171 rfl rfl (by decide +kernel) rfl dX8_over_26 (fun H locs hw => ?_)
      obtain ⟨v5, e5⟩ : ∃ z9, z9 = sI M2 36 3 v4 := ⟨_, rfl⟩
      rw [← e5] at h hw
      refine lv_aload_n hx hb dX8_over_29 rfl (lv_at hl 0 rfl) ?_
      refine m_get (k := 36) (C := RX8) (T := TX8) (N := 18) (ref := "LiftFactorsModel") (v := .int (v5.2 36 3)) hx hb hi hts inX8_u hown hw (by decide) rfl 3 (by decide) q_171 rfl rfl dX8_over_30 ?_
      refine lv_if_eq (tgt := 38) hx hb dX8_over_33 (by decide) (fun hc => ?_) (fun hc => ?_)
      · replace h := ite_t hc h
        refine lv_aload_n hx hb dX8_over_38 rfl (lv_at hl 0 rfl) ?_
        refine lv_iconst (v := (1 : Int32)) hx hb dX8_over_39 (by decide) ?_
        refine lv_iconst (v := (0 : Int32)) hx hb dX8_over_40 (by decide) ?_
        refine lv_ldc2 (v := (9999 : Int64)) hx hb hown (hts _ q_22) dX8_over_41 ?_
        replace h := bnd h
        obtain ⟨⟨v6, M7⟩, e6, h⟩ := h
        refine m_callVi (k := 36) (As := [.int (1 : Int32), .int (0 : Int32), .long (9999 : Int64)]) (rest := []) cx.fix hi hw (cc_X8_divides (l := l) (G := G) (sz := H.size) hi e6) (by decide) rfl rfl (w_cV 3 hts q_90 q_91 q_92 q_93 q_94 rfl rfl (by decide) (by decide)) hl.1 rfl (lv_room (Nat.le_of_ble_eq_true rfl)) dX8_over_44 (fun H locs hw => ?_)
        replace h := bnd h
        obtain ⟨⟨M10, v11⟩, j12, h⟩ := h
        have kj : ∀ (ls : Array Slot) (H : Heap) (locs : List Loc), lv_has ls 3 [] → wH G A s.heap s (LL adr) (wf G adr M10) H locs → W p l e { frames := 3, cells := 0, slots := 0, locals := 68 } s m args below meth c H locs 0 0 Q (F0 m 59 ls [.int v11]) := by
          intro ls H locs hl hw
          cases h
          exact kr _ _ _ _ dX8_over_59 hw
        clear h
        replace h := j12
        clear j12
        refine lv_if_eq (tgt := 58) hx hb dX8_over_47 (by decide) (fun hc => ?_) (fun hc => ?_)
        · replace h := ite_t hc h
          refine lv_iconst (v := (-1 : Int32)) hx hb dX8_over_58 (by decide) ?_
          cases h
          exact kj _ _ _ (lv_sub hl [] rfl) hw
        · replace h := ite_f hc h
          refine lv_aload_n hx hb dX8_over_50 rfl (lv_at hl 0 rfl) ?_
          refine lv_iconst (v := (3 : Int32)) hx hb dX8_over_51 (by decide) ?_
          replace h := bnd h
          obtain ⟨⟨v8, M9⟩, e8, h⟩ := h
          refine m_callVi (k := 36) (As := [.int (3 : Int32)]) (rest := []) cx.fix hi hw (cc_X8_store (l := l) (G := G) (sz := H.size) hi e8) (by decide) rfl rfl (w_cV 1 hts q_204 q_205 q_206 q_207 q_208 rfl rfl (by decide) (by decide)) hl.1 rfl (lv_room (Nat.le_of_ble_eq_true rfl)) dX8_over_52 (fun H locs hw => ?_)
          refine lv_goto (tgt := 59) hx hb dX8_over_55 (by decide) ?_
          cases h
          exact kj _ _ _ (lv_sub hl [] rfl) hw
      · replace h := ite_f hc h
        refine lv_iconst (v := (0 : Int32)) hx hb dX8_over_36 (by decide) ?_
        cases h
        exact kr _ _ _ _ dX8_over_37 hw
    clear h
    replace h := j13
    clear j13
    refine lv_if_ge (tgt := 25) hx hb dX8_over_18 (by decide) (fun hc => ?_) (fun hc => ?_)
    · replace h := ite_t hc h
      refine lv_iconst (v := (0 : Int32)) hx hb dX8_over_25 (by decide) ?_
      cases h
      exact kj _ _ _ (lv_sub hl [0] rfl) hw
    · replace h := ite_f hc h
      refine lv_iconst (v := (3 : Int32)) hx hb dX8_over_21 (by decide) ?_
      refine lv_goto (tgt := 26) hx hb dX8_over_22 (by decide) ?_
      cases h
      exact kj _ _ _ (lv_sub hl [0] rfl) hw
  · replace h := ite_f hc h
    refine lv_iconst (v := (0 : Int32)) hx hb dX8_over_9 (by decide) ?_
    cases h
    exact kr _ _ _ _ dX8_over_10 hw
theorem cc_X8_over {l : Launch} {G : gG} {adr : Nat → Nat} {sz : Nat} (hi : adi adr) {n : Nat} {a0 : Int32} {a1 : Int32} {M M' : Mem} {r : Int32} (h : f_X8_over n a0 a1 M = some (r, M')) : mI l yX8_over cX8_over 3 (some .int) { frames := 3, cells := 0, slots := 0, locals := 68 } G adr [.ref (adr 36), .int a0, .int a1] M sz r M' := by
  refine wEnter (by decide) (Nat.le_of_ble_eq_true rfl) ?_
  intro p e s m below meth c ls cx hinit hl hsz hw
  exact b_X8_over cx hi h (fun pc ls H locs hd hw => w_iret (post := fun (r9 : Int32) (u : Mem) => r9 = r ∧ u = M') (lf := fun u => (LL adr, wf G adr u)) cx.1 cx.2.1 cx.2.2.1 cx.2.2.2.2.2.2 M' hw ⟨rfl, rfl⟩ hd) hl hw
def f_X8_gcd (n : Nat) (a0 : Int32) (a1 : Int32) (M : Mem) : Option (Int32 × Mem) :=
  Option.bind (f_X8_refuses n a0 a1 M) fun (v1, M2) =>
  if v1 = 0 then
    Option.bind (f_X8_primitive n (0 : Int32) M2) fun (v3, M4) =>
    Option.bind (f_X8_primitive n (1 : Int32) M4) fun (v5, M6) =>
    Option.bind (ldI M6 42 (0 : Int32)) fun v7 =>
    Option.bind (
      if 0 ≤ v7 then
        Option.bind (f_X8_commonWhole n (0 : Int32) (1 : Int32) (11 : Int32) M6) fun v8 =>
        some v8
      else
        Option.bind (ldI M6 42 (1 : Int32)) fun v9 =>
        if 0 ≤ v9 then
          Option.bind (f_X8_commonWhole n (0 : Int32) (1 : Int32) (11 : Int32) M6) fun v10 =>
          some v10
        else
          Option.bind (f_X8_copy n (0 : Int32) (11 : Int32) M6) fun v11 =>
          some v11) fun M12 =>
    Option.bind (f_X8_great n (11 : Int32) M12) fun v13 =>
    Option.bind (
      if v13 = 0 then
        Option.bind (f_X8_store n (11 : Int32) M12) fun (v14, M15) =>
        some (M15, v14)
      else
        some (M12, (-1 : Int32))) fun (M16, v17) =>
    some (v17, M16)
  else
    some ((0 : Int32), M2)
set_option maxRecDepth 100000 in
set_option maxHeartbeats 8000000 in
theorem b_X8_gcd {p : Program} {l : Launch} {e : Env} {s : State} {m : MethodId} {args : Array Value} {below : List Frame} {meth : Method} {c : Code} {Q : State → Prop} {G : gG} {A : Nat → Prop} {adr : Nat → Nat} (cx : cX p s m args meth c cX8_gcd (some .int) 3 yX8_gcd.cls) (hi : adi adr) {n : Nat} {a0 : Int32} {a1 : Int32} {M M' : Mem} {r : Int32} 
    (h : f_X8_gcd n a0 a1 M = some (r, M'))
    (kr : ∀ (pc : Nat) (ls : Array Slot) (H : Heap) (locs : List Loc), decode cX8_gcd pc = .ok (.ireturn, 1) → wH G A s.heap s (LL adr) (wf G adr M') H locs → W p l e { frames := 5, cells := 0, slots := 0, locals := 133 } s m args below meth c H locs 0 0 Q (F0 m pc ls [.int r]))
    {ls : Array Slot} {H : Heap} {locs : List Loc} (hl : lv_has ls 3 [(0, .ref (adr 36)), (1, .int a0), (2, .int a1)]) (hw : wH G A s.heap s (LL adr) (wf G adr M) H locs) : W p l e { frames := 5, cells := 0, slots := 0, locals := 133 } s m args below meth c H locs 0 0 Q (F0 m 0 ls []) := by
  obtain ⟨hx, hb, -, -, hown, hts, -⟩ := id cx
  have hown : s.vm.findClass RX8 = some m.cls := hown
  unfold f_X8_gcd at h
  refine lv_aload_n hx hb dX8_gcd_0 rfl (lv_at hl 0 rfl) ?_
  refine lv_iload_n hx hb dX8_gcd_1 rfl (lv_at hl 1 rfl) ?_
  refine lv_iload_n hx hb dX8_gcd_2 rfl (lv_at hl 2 rfl) ?_
  replace h := bnd h
  obtain ⟨⟨v1, M2⟩, e1, h⟩ := h
  refine m_callVi (k := 36) (As := [.int a0, .int a1]) (rest := []) cx.fix hi hw (cc_X8_refuses (l := l) (G := G) (sz := H.size) hi e1) (by decide) rfl rfl (w_cV 2 hts q_214 q_215 q_216 q_217 q_218 rfl rfl (by decide) (by decide)) hl.1 rfl (lv_room (Nat.le_of_ble_eq_true rfl)) dX8_gcd_3 (fun H locs hw => ?_)
  refine lv_if_eq (tgt := 11) hx hb dX8_gcd_6 (by decide) (fun hc => ?_) (fun hc => ?_)
  · replace h := ite_t hc h
    refine lv_aload_n hx hb dX8_gcd_11 rfl (lv_at hl 0 rfl) ?_
    refine lv_iconst (v := (0 : Int32)) hx hb dX8_gcd_12 (by decide) ?_
    replace h := bnd h
    obtain ⟨⟨v3, M4⟩, e3, h⟩ := h
    refine m_callVl (k := 36) (As := [.int (0 : Int32)]) (rest := []) cx.fix hi hw (cc_X8_primitive (l := l) (G := G) (sz := H.size) hi e3) (by decide) rfl rfl (w_cV 1 hts q_64 q_65 q_66 q_67 q_68 rfl rfl (by decide) (by decide)) hl.1 rfl (lv_room (Nat.le_of_ble_eq_true rfl)) dX8_gcd_13 (fun H locs hw => ?_)
    refine lv_pop2_2 hx hb dX8_gcd_16 rfl ?_
    refine lv_aload_n hx hb dX8_gcd_17 rfl (lv_at hl 0 rfl) ?_
    refine lv_iconst (v := (1 : Int32)) hx hb dX8_gcd_18 (by decide) ?_
    replace h := bnd h
    obtain ⟨⟨v5, M6⟩, e5, h⟩ := h
    refine m_callVl (k := 36) (As := [.int (1 : Int32)]) (rest := []) cx.fix hi hw (cc_X8_primitive (l := l) (G := G) (sz := H.size) hi e5) (by decide) rfl rfl (w_cV 1 hts q_64 q_65 q_66 q_67 q_68 rfl rfl (by decide) (by decide)) hl.1 rfl (lv_room (Nat.le_of_ble_eq_true rfl)) dX8_gcd_19 (fun H locs hw => ?_)
    refine lv_pop2_2 hx hb dX8_gcd_22 rfl ?_
    refine lv_aload_n hx hb dX8_gcd_23 rfl (lv_at hl 0 rfl) ?_
    refine m_get (k := 36) (C := RX8) (T := TX8) (N := 18) (ref := "LiftFactorsModel") (v := .ref (adr 42)) hx hb hi hts inX8_u hown hw (by decide) rfl 8 (by decide) q_1 rfl rfl dX8_gcd_24 ?_
    refine lv_iconst (v := (0 : Int32)) hx hb dX8_gcd_27 (by decide) ?_
    replace h := bnd h
    obtain ⟨v7, e7, h⟩ := h
    refine m_iald hx hb hi hw e7 dX8_gcd_28 ?_
    replace h := bnd h
    obtain ⟨M12, j19, h⟩ := h
    have kj : ∀ (ls : Array Slot) (H : Heap) (locs : List Loc), lv_has ls 3 [(0, .ref (adr 36))] → wH G A s.heap s (LL adr) (wf G adr M12) H locs → W p l e { frames := 5, cells := 0, slots := 0, locals := 133 } s m args below meth c H locs 0 0 Q (F0 m 59 ls []) := by
      intro ls H locs hl hw
      refine lv_aload_n hx hb dX8_gcd_59 rfl (lv_at hl 0 rfl) ?_
      refine lv_bipush (v := (11 : Int32)) hx hb dX8_gcd_60 (by decide) ?_
      replace h := bnd h
      obtain ⟨v13, e13, h⟩ := h
      refine m_callVi (k := 36) (As := [.int (11 : Int32)]) (rest := []) cx.fix hi hw (cc_X8_great (l := l) (G := G) (sz := H.size) hi e13) (by decide) rfl rfl (w_cV 1 hts q_197 q_198 q_199 q_200 q_201 rfl rfl (by decide) (by decide)) hl.1 rfl (lv_room (Nat.le_of_ble_eq_true rfl)) dX8_gcd_62 (fun H locs hw => ?_)
      replace h := bnd h
      obtain ⟨⟨M16, v17⟩, j18, h⟩ := h
      have kj : ∀ (ls : Array Slot) (H : Heap) (locs : List Loc), lv_has ls 3 [] → wH G A s.heap s (LL adr) (wf G adr M16) H locs → W p l e { frames := 5, cells := 0, slots := 0, locals := 133 } s m args below meth c H locs 0 0 Q (F0 m 78 ls [.int v17]) := by
        intro ls H locs hl hw
        cases h
        exact kr _ _ _ _ dX8_gcd_78 hw
      clear h
      replace h := j18
      clear j18
      refine lv_if_eq (tgt := 72) hx hb dX8_gcd_65 (by decide) (fun hc => ?_) (fun hc => ?_)
      · replace h := ite_t hc h
        refine lv_aload_n hx hb dX8_gcd_72 rfl (lv_at hl 0 rfl) ?_
        refine lv_bipush (v := (11 : Int32)) hx hb dX8_gcd_73 (by decide) ?_
        replace h := bnd h
        obtain ⟨⟨v14, M15⟩, e14, h⟩ := h
        refine m_callVi (k := 36) (As := [.int (11 : Int32)]) (rest := []) cx.fix hi hw (cc_X8_store (l := l) (G := G) (sz := H.size) hi e14) (by decide) rfl rfl (w_cV 1 hts q_204 q_205 q_206 q_207 q_208 rfl rfl (by decide) (by decide)) hl.1 rfl (lv_room (Nat.le_of_ble_eq_true rfl)) dX8_gcd_75 (fun H locs hw => ?_)
        cases h
        exact kj _ _ _ (lv_sub hl [] rfl) hw
      · replace h := ite_f hc h
        refine lv_iconst (v := (-1 : Int32)) hx hb dX8_gcd_68 (by decide) ?_
        refine lv_goto (tgt := 78) hx hb dX8_gcd_69 (by decide) ?_
        cases h
        exact kj _ _ _ (lv_sub hl [] rfl) hw
    clear h
    replace h := j19
    clear j19
    refine lv_if_ge (tgt := 51) hx hb dX8_gcd_29 (by decide) (fun hc => ?_) (fun hc => ?_)
    · replace h := ite_t hc h
      refine lv_aload_n hx hb dX8_gcd_51 rfl (lv_at hl 0 rfl) ?_
      refine lv_iconst (v := (0 : Int32)) hx hb dX8_gcd_52 (by decide) ?_
      refine lv_iconst (v := (1 : Int32)) hx hb dX8_gcd_53 (by decide) ?_
      refine lv_bipush (v := (11 : Int32)) hx hb dX8_gcd_54 (by decide) ?_
      replace h := bnd h
      obtain ⟨v8, e8, h⟩ := h
      refine m_callVv (k := 36) (As := [.int (0 : Int32), .int (1 : Int32), .int (11 : Int32)]) (rest := []) cx.fix hi hw (cc_X8_commonWhole (l := l) (G := G) (sz := H.size) hi e8) (by decide) rfl rfl (w_cV 3 hts q_161 q_162 q_163 q_164 q_165 rfl rfl (by decide) (by decide)) hl.1 rfl (lv_room (Nat.le_of_ble_eq_true rfl)) dX8_gcd_56 (fun H locs hw => ?_)
      cases h
      exact kj _ _ _ (lv_sub hl [0] rfl) hw
    · replace h := ite_f hc h
      refine lv_aload_n hx hb dX8_gcd_32 rfl (lv_at hl 0 rfl) ?_
      refine m_get (k := 36) (C := RX8) (T := TX8) (N := 18) (ref := "LiftFactorsModel") (v := .ref (adr 42)) hx hb hi hts inX8_u hown hw (by decide) rfl 8 (by decide) q_1 rfl rfl dX8_gcd_33 ?_
      refine lv_iconst (v := (1 : Int32)) hx hb dX8_gcd_36 (by decide) ?_
      replace h := bnd h
      obtain ⟨v9, e9, h⟩ := h
      refine m_iald hx hb hi hw e9 dX8_gcd_37 ?_
      refine lv_if_ge (tgt := 51) hx hb dX8_gcd_38 (by decide) (fun hc => ?_) (fun hc => ?_)
      · replace h := ite_t hc h
        refine lv_aload_n hx hb dX8_gcd_51 rfl (lv_at hl 0 rfl) ?_
        refine lv_iconst (v := (0 : Int32)) hx hb dX8_gcd_52 (by decide) ?_
        refine lv_iconst (v := (1 : Int32)) hx hb dX8_gcd_53 (by decide) ?_
        refine lv_bipush (v := (11 : Int32)) hx hb dX8_gcd_54 (by decide) ?_
        replace h := bnd h
        obtain ⟨v10, e10, h⟩ := h
        refine m_callVv (k := 36) (As := [.int (0 : Int32), .int (1 : Int32), .int (11 : Int32)]) (rest := []) cx.fix hi hw (cc_X8_commonWhole (l := l) (G := G) (sz := H.size) hi e10) (by decide) rfl rfl (w_cV 3 hts q_161 q_162 q_163 q_164 q_165 rfl rfl (by decide) (by decide)) hl.1 rfl (lv_room (Nat.le_of_ble_eq_true rfl)) dX8_gcd_56 (fun H locs hw => ?_)
        cases h
        exact kj _ _ _ (lv_sub hl [0] rfl) hw
      · replace h := ite_f hc h
        refine lv_aload_n hx hb dX8_gcd_41 rfl (lv_at hl 0 rfl) ?_
        refine lv_iconst (v := (0 : Int32)) hx hb dX8_gcd_42 (by decide) ?_
        refine lv_bipush (v := (11 : Int32)) hx hb dX8_gcd_43 (by decide) ?_
        replace h := bnd h
        obtain ⟨v11, e11, h⟩ := h
        refine m_callVv (k := 36) (As := [.int (0 : Int32), .int (11 : Int32)]) (rest := []) cx.fix hi hw (cc_X8_copy (l := l) (G := G) (sz := H.size) hi e11) (by decide) rfl rfl (w_cV 2 hts q_24 q_25 q_26 q_27 q_28 rfl rfl (by decide) (by decide)) hl.1 rfl (lv_room (Nat.le_of_ble_eq_true rfl)) dX8_gcd_45 (fun H locs hw => ?_)
        refine lv_goto (tgt := 59) hx hb dX8_gcd_48 (by decide) ?_
        cases h
        exact kj _ _ _ (lv_sub hl [0] rfl) hw
  · replace h := ite_f hc h
    refine lv_iconst (v := (0 : Int32)) hx hb dX8_gcd_9 (by decide) ?_
    cases h
    exact kr _ _ _ _ dX8_gcd_10 hw
theorem cc_X8_gcd {l : Launch} {G : gG} {adr : Nat → Nat} {sz : Nat} (hi : adi adr) {n : Nat} {a0 : Int32} {a1 : Int32} {M M' : Mem} {r : Int32} (h : f_X8_gcd n a0 a1 M = some (r, M')) : mI l yX8_gcd cX8_gcd 3 (some .int) { frames := 5, cells := 0, slots := 0, locals := 133 } G adr [.ref (adr 36), .int a0, .int a1] M sz r M' := by
  refine wEnter (by decide) (Nat.le_of_ble_eq_true rfl) ?_
  intro p e s m below meth c ls cx hinit hl hsz hw
  exact b_X8_gcd cx hi h (fun pc ls H locs hd hw => w_iret (post := fun (r9 : Int32) (u : Mem) => r9 = r ∧ u = M') (lf := fun u => (LL adr, wf G adr u)) cx.1 cx.2.1 cx.2.2.1 cx.2.2.2.2.2.2 M' hw ⟨rfl, rfl⟩ hd) hl hw
def f_X8_content (n : Nat) (a0 : Int32) (M : Mem) : Option (Int32 × Mem) :=
  Option.bind (f_X8_isPoly a0) fun v1 =>
  Option.bind (
    if v1 = 0 then
      some (1 : Int32)
    else
      some (0 : Int32)) fun v2 =>
  Option.bind (ptI M 36 3 v2) fun v3 =>
  if (v3.2 36 3) = 0 then
    Option.bind (f_X8_load n a0 (0 : Int32) v3) fun v4 =>
    Option.bind (f_X8_primitive n (0 : Int32) v4) fun (v5, M6) =>
    some (v5.toInt32, M6)
  else
    some ((0 : Int32), v3)
set_option maxRecDepth 100000 in
set_option maxHeartbeats 8000000 in
theorem b_X8_content {p : Program} {l : Launch} {e : Env} {s : State} {m : MethodId} {args : Array Value} {below : List Frame} {meth : Method} {c : Code} {Q : State → Prop} {G : gG} {A : Nat → Prop} {adr : Nat → Nat} (cx : cX p s m args meth c cX8_content (some .int) 2 yX8_content.cls) (hi : adi adr) {n : Nat} {a0 : Int32} {M M' : Mem} {r : Int32} 
    (h : f_X8_content n a0 M = some (r, M'))
    (kr : ∀ (pc : Nat) (ls : Array Slot) (H : Heap) (locs : List Loc), decode cX8_content pc = .ok (.ireturn, 1) → wH G A s.heap s (LL adr) (wf G adr M') H locs → W p l e { frames := 3, cells := 0, slots := 0, locals := 74 } s m args below meth c H locs 0 0 Q (F0 m pc ls [.int r]))
    {ls : Array Slot} {H : Heap} {locs : List Loc} (hl : lv_has ls 2 [(0, .ref (adr 36)), (1, .int a0)]) (hw : wH G A s.heap s (LL adr) (wf G adr M) H locs) : W p l e { frames := 3, cells := 0, slots := 0, locals := 74 } s m args below meth c H locs 0 0 Q (F0 m 0 ls []) := by
  obtain ⟨hx, hb, -, -, hown, hts, -⟩ := id cx
  have hown : s.vm.findClass RX8 = some m.cls := hown
  unfold f_X8_content at h
  refine lv_aload_n hx hb dX8_content_0 rfl (lv_at hl 0 rfl) ?_
  refine lv_iload_n hx hb dX8_content_1 rfl (lv_at hl 1 rfl) ?_
  replace h := bnd h
  obtain ⟨v1, e1, h⟩ := h
  refine m_callSi (As := [.int a0]) (rest := [.ref (adr 36)]) cx.fix hw (cc_X8_isPoly (l := l) (G := G) (sz := H.size) (M := M) hi e1) (w_cS 1 hts q_167 q_168 q_169 q_170 rfl rfl (by decide) (by decide)) hl.1 rfl (lv_room (Nat.le_of_ble_eq_true rfl)) dX8_content_2 (fun H locs hw => ?_)
  replace h := bnd h
  obtain ⟨v2, j7, h⟩ := h
  have kj : ∀ (ls : Array Slot) (H : Heap) (locs : List Loc), lv_has ls 2 [(0, .ref (adr 36)), (1, .int a0)] → wH G A s.heap s (LL adr) (wf G adr M) H locs → W p l e { frames := 3, cells := 0, slots := 0, locals := 74 } s m args below meth c H locs 0 0 Q (F0 m 13 ls [.int v2, .ref (adr 36)]) := by
    intro ls H locs hl hw
    replace h := bnd h
    obtain ⟨v3, e3, h⟩ := h
    obtain rfl := pt_s e3
    refine m_putI (k := 36) (C := RX8) (T := TX8) (N := 18) (ref := "LiftFactorsModel") hx hb hi hts inX8_u tyX8 tyX8_ok nmX8 hown hw (by decide) rfl 3 (by decide) q_171 rfl rfl (by decide +kernel) rfl dX8_content_13 (fun H locs hw => ?_)
    obtain ⟨v3, e3⟩ : ∃ z9, z9 = sI M 36 3 v2 := ⟨_, rfl⟩
    rw [← e3] at h hw
    refine lv_aload_n hx hb dX8_content_16 rfl (lv_at hl 0 rfl) ?_
    refine m_get (k := 36) (C := RX8) (T := TX8) (N := 18) (ref := "LiftFactorsModel") (v := .int (v3.2 36 3)) hx hb hi hts inX8_u hown hw (by decide) rfl 3 (by decide) q_171 rfl rfl dX8_content_17 ?_
    refine lv_if_eq (tgt := 25) hx hb dX8_content_20 (by decide) (fun hc => ?_) (fun hc => ?_)
    · replace h := ite_t hc h
      refine lv_aload_n hx hb dX8_content_25 rfl (lv_at hl 0 rfl) ?_
      refine lv_iload_n hx hb dX8_content_26 rfl (lv_at hl 1 rfl) ?_
      refine lv_iconst (v := (0 : Int32)) hx hb dX8_content_27 (by decide) ?_
      replace h := bnd h
      obtain ⟨v4, e4, h⟩ := h
      refine m_callVv (k := 36) (As := [.int a0, .int (0 : Int32)]) (rest := []) cx.fix hi hw (cc_X8_load (l := l) (G := G) (sz := H.size) hi e4) (by decide) rfl rfl (w_cV 2 hts q_172 q_173 q_174 q_175 q_176 rfl rfl (by decide) (by decide)) hl.1 rfl (lv_room (Nat.le_of_ble_eq_true rfl)) dX8_content_28 (fun H locs hw => ?_)
      refine lv_aload_n hx hb dX8_content_31 rfl (lv_at hl 0 rfl) ?_
      refine lv_iconst (v := (0 : Int32)) hx hb dX8_content_32 (by decide) ?_
      replace h := bnd h
      obtain ⟨⟨v5, M6⟩, e5, h⟩ := h
      refine m_callVl (k := 36) (As := [.int (0 : Int32)]) (rest := []) cx.fix hi hw (cc_X8_primitive (l := l) (G := G) (sz := H.size) hi e5) (by decide) rfl rfl (w_cV 1 hts q_64 q_65 q_66 q_67 q_68 rfl rfl (by decide) (by decide)) hl.1 rfl (lv_room (Nat.le_of_ble_eq_true rfl)) dX8_content_33 (fun H locs hw => ?_)
      refine lv_l2i (v := v5.toInt32) hx hb dX8_content_36 rfl ?_
      cases h
      exact kr _ _ _ _ dX8_content_37 hw
    · replace h := ite_f hc h
      refine lv_iconst (v := (0 : Int32)) hx hb dX8_content_23 (by decide) ?_
      cases h
      exact kr _ _ _ _ dX8_content_24 hw
  clear h
  replace h := j7
  clear j7
  refine lv_if_eq (tgt := 12) hx hb dX8_content_5 (by decide) (fun hc => ?_) (fun hc => ?_)
  · replace h := ite_t hc h
    refine lv_iconst (v := (1 : Int32)) hx hb dX8_content_12 (by decide) ?_
    cases h
    exact kj _ _ _ (lv_sub hl [0, 1] rfl) hw
  · replace h := ite_f hc h
    refine lv_iconst (v := (0 : Int32)) hx hb dX8_content_8 (by decide) ?_
    refine lv_goto (tgt := 13) hx hb dX8_content_9 (by decide) ?_
    cases h
    exact kj _ _ _ (lv_sub hl [0, 1] rfl) hw
theorem cc_X8_content {l : Launch} {G : gG} {adr : Nat → Nat} {sz : Nat} (hi : adi adr) {n : Nat} {a0 : Int32} {M M' : Mem} {r : Int32} (h : f_X8_content n a0 M = some (r, M')) : mI l yX8_content cX8_content 2 (some .int) { frames := 3, cells := 0, slots := 0, locals := 74 } G adr [.ref (adr 36), .int a0] M sz r M' := by
  refine wEnter (by decide) (Nat.le_of_ble_eq_true rfl) ?_
  intro p e s m below meth c ls cx hinit hl hsz hw
  exact b_X8_content cx hi h (fun pc ls H locs hd hw => w_iret (post := fun (r9 : Int32) (u : Mem) => r9 = r ∧ u = M') (lf := fun u => (LL adr, wf G adr u)) cx.1 cx.2.1 cx.2.2.1 cx.2.2.2.2.2.2 M' hw ⟨rfl, rfl⟩ hd) hl hw
theorem q_219 : Cond.fieldLink RX8 214 "LiftFactorsModel" "roots" "I" ∈ uU := uU_in (by decide +kernel) (by decide +kernel)
theorem q_220 : Cond.fieldLink RX8 39 "LiftFactorsModel" "rootAbove" "[I" ∈ uU := uU_in (by decide +kernel) (by decide +kernel)
theorem q_221 : Cond.fieldLink RX8 42 "LiftFactorsModel" "rootBelow" "[I" ∈ uU := uU_in (by decide +kernel) (by decide +kernel)
def l_X8_addRoot_44 (a0 : Int32) (a1 : Int32) : Mem × Int32 → Option ((Mem × Int32) ⊕ (Mem × Int32)) := fun (M6, v7) =>
  if v7 ≤ 0 then
    some (.inl (M6, v7))
  else
    Option.bind (ldI M6 46 (v7 - (1 : Int32))) fun v8 =>
    Option.bind (ldI M6 47 (v7 - (1 : Int32))) fun v9 =>
    if (v8.toInt64 * a1.toInt64) ≤ (a0.toInt64 * v9.toInt64) then
      some (.inl (M6, v7))
    else
      Option.bind (ldI M6 46 (v7 - (1 : Int32))) fun v10 =>
      Option.bind (stI M6 46 v7 v10) fun v11 =>
      Option.bind (ldI v11 47 (v7 - (1 : Int32))) fun v12 =>
      Option.bind (stI v11 47 v7 v12) fun v13 =>
      some (.inr (v13, v7 + (-1)))
def f_X8_addRoot (n : Nat) (a0 : Int32) (a1 : Int32) (M : Mem) : Option Mem :=
  Option.bind (stJ M 41 (24 : Int32) ((-a0).toInt64)) fun v1 =>
  Option.bind (stJ v1 41 (25 : Int32) a1.toInt64) fun v2 =>
  Option.bind (stI v2 42 (1 : Int32) (1 : Int32)) fun v3 =>
  Option.bind (f_X8_divides n (1 : Int32) (0 : Int32) (20000000 : Int64) v3) fun (v4, M5) =>
  if v4 = 0 then
    some M5
  else
    Option.bind (lpF (l_X8_addRoot_44 a0 a1) n (M5, M5.2 36 15)) fun (M15, v16) =>
    Option.bind (stI M15 46 v16 a0) fun v17 =>
    Option.bind (stI v17 47 v16 a1) fun v18 =>
    Option.bind (ptI v18 36 15 ((v18.2 36 15) + (1 : Int32))) fun v19 =>
    some v19
set_option maxRecDepth 100000 in
set_option maxHeartbeats 8000000 in
theorem b_X8_addRoot {p : Program} {l : Launch} {e : Env} {s : State} {m : MethodId} {args : Array Value} {below : List Frame} {meth : Method} {c : Code} {Q : State → Prop} {G : gG} {A : Nat → Prop} {adr : Nat → Nat} (cx : cX p s m args meth c cX8_addRoot none 4 yX8_addRoot.cls) (hi : adi adr) {n : Nat} {a0 : Int32} {a1 : Int32} {M M' : Mem} 
    (h : f_X8_addRoot n a0 a1 M = some M')
    (kr : ∀ (pc : Nat) (ls : Array Slot) (H : Heap) (locs : List Loc), decode cX8_addRoot pc = .ok (.return_, 1) → wH G A s.heap s (LL adr) (wf G adr M') H locs → W p l e { frames := 2, cells := 0, slots := 0, locals := 56 } s m args below meth c H locs 0 0 Q (F0 m pc ls []))
    {ls : Array Slot} {H : Heap} {locs : List Loc} (hl : lv_has ls 4 [(0, .ref (adr 36)), (1, .int a0), (2, .int a1)]) (hw : wH G A s.heap s (LL adr) (wf G adr M) H locs) : W p l e { frames := 2, cells := 0, slots := 0, locals := 56 } s m args below meth c H locs 0 0 Q (F0 m 0 ls []) := by
  obtain ⟨hx, hb, -, -, hown, hts, -⟩ := id cx
  have hown : s.vm.findClass RX8 = some m.cls := hown
  unfold f_X8_addRoot at h
  refine lv_aload_n hx hb dX8_addRoot_0 rfl (lv_at hl 0 rfl) ?_
  refine m_get (k := 36) (C := RX8) (T := TX8) (N := 18) (ref := "LiftFactorsModel") (v := .ref (adr 41)) hx hb hi hts inX8_u hown hw (by decide) rfl 7 (by decide) q_0 rfl rfl dX8_addRoot_1 ?_
  refine lv_bipush (v := (24 : Int32)) hx hb dX8_addRoot_4 (by decide) ?_
  refine lv_iload_n hx hb dX8_addRoot_6 rfl (lv_at hl 1 rfl) ?_
  refine lv_ineg hx hb dX8_addRoot_7 ?_
  refine lv_i2l (v := (-a0).toInt64) hx hb dX8_addRoot_8 rfl ?_
  replace h := bnd h
  obtain ⟨v1, e1, h⟩ := h
  refine m_last hx hb hi hw e1 dX8_addRoot_9 (fun H locs hw => ?_)
  refine lv_aload_n hx hb dX8_addRoot_10 rfl (lv_at hl 0 rfl) ?_
  refine m_get (k := 36) (C := RX8) (T := TX8) (N := 18) (ref := "LiftFactorsModel") (v := .ref (adr 41)) hx hb hi hts inX8_u hown hw (by decide) rfl 7 (by decide) q_0 rfl rfl dX8_addRoot_11 ?_
  refine lv_bipush (v := (25 : Int32)) hx hb dX8_addRoot_14 (by decide) ?_
  refine lv_iload_n hx hb dX8_addRoot_16 rfl (lv_at hl 2 rfl) ?_
  refine lv_i2l (v := a1.toInt64) hx hb dX8_addRoot_17 rfl ?_
  replace h := bnd h
  obtain ⟨v2, e2, h⟩ := h
  refine m_last hx hb hi hw e2 dX8_addRoot_18 (fun H locs hw => ?_)
  refine lv_aload_n hx hb dX8_addRoot_19 rfl (lv_at hl 0 rfl) ?_
  refine m_get (k := 36) (C := RX8) (T := TX8) (N := 18) (ref := "LiftFactorsModel") (v := .ref (adr 42)) hx hb hi hts inX8_u hown hw (by decide) rfl 8 (by decide) q_1 rfl rfl dX8_addRoot_20 ?_
  refine lv_iconst (v := (1 : Int32)) hx hb dX8_addRoot_23 (by decide) ?_
  refine lv_iconst (v := (1 : Int32)) hx hb dX8_addRoot_24 (by decide) ?_
  replace h := bnd h
  obtain ⟨v3, e3, h⟩ := h
  refine m_iast hx hb hi hw e3 dX8_addRoot_25 (fun H locs hw => ?_)
  refine lv_aload_n hx hb dX8_addRoot_26 rfl (lv_at hl 0 rfl) ?_
  refine lv_iconst (v := (1 : Int32)) hx hb dX8_addRoot_27 (by decide) ?_
  refine lv_iconst (v := (0 : Int32)) hx hb dX8_addRoot_28 (by decide) ?_
  refine lv_ldc2 (v := (20000000 : Int64)) hx hb hown (hts _ q_23) dX8_addRoot_29 ?_
  replace h := bnd h
  obtain ⟨⟨v4, M5⟩, e4, h⟩ := h
  refine m_callVi (k := 36) (As := [.int (1 : Int32), .int (0 : Int32), .long (20000000 : Int64)]) (rest := []) cx.fix hi hw (cc_X8_divides (l := l) (G := G) (sz := H.size) hi e4) (by decide) rfl rfl (w_cV 3 hts q_90 q_91 q_92 q_93 q_94 rfl rfl (by decide) (by decide)) hl.1 rfl (lv_room (Nat.le_of_ble_eq_true rfl)) dX8_addRoot_32 (fun H locs hw => ?_)
  refine lv_if_ne (tgt := 39) hx hb dX8_addRoot_35 (by decide) (fun hc => ?_) (fun hc => ?_)
  · replace h := ite_f hc h
    refine lv_aload_n hx hb dX8_addRoot_39 rfl (lv_at hl 0 rfl) ?_
    refine m_get (k := 36) (C := RX8) (T := TX8) (N := 18) (ref := "LiftFactorsModel") (v := .int (M5.2 36 15)) hx hb hi hts inX8_u hown hw (by decide) rfl 15 (by decide) q_219 rfl rfl dX8_addRoot_40 ?_
    refine lv_istore_n (lv' := [(3, .int (M5.2 36 15)), (0, .ref (adr 36)), (1, .int a0), (2, .int a1)]) hx hb dX8_addRoot_43 rfl hl (by decide) rfl (fun ls hl => ?_)
    replace h := bnd h
    obtain ⟨⟨M15, v16⟩, j14, h⟩ := h
    refine lp_W (Wst := fun (st : Mem × Int32) => ∀ (ls : Array Slot) (H : Heap) (locs : List Loc), lv_has ls 4 [(0, .ref (adr 36)), (1, .int a0), (2, .int a1), (3, .int st.2)] → wH G A s.heap s (LL adr) (wf G adr st.1) H locs → W p l e { frames := 2, cells := 0, slots := 0, locals := 56 } s m args below meth c H locs 0 0 Q (F0 m 44 ls [])) (fin := fun (r : Mem × Int32) => ∀ (ls : Array Slot) (H : Heap) (locs : List Loc), lv_has ls 4 [(0, .ref (adr 36)), (1, .int a0), (2, .int a1), (3, .int r.2)] → wH G A s.heap s (LL adr) (wf G adr r.1) H locs → W p l e { frames := 2, cells := 0, slots := 0, locals := 56 } s m args below meth c H locs 0 0 Q (F0 m 110 ls [])) ?_ n _ _ j14 ?_ _ _ _ (lv_sub hl [1, 2, 3, 0] rfl) hw
    · clear h j14 hw hl
      intro ⟨M6, v7⟩ x h k1 k2 ls H locs hl hw
      (try dsimp only at k1 k2 hl hw ⊢)
      unfold l_X8_addRoot_44 at h
      (try dsimp only at h)
      refine lv_iload_n hx hb dX8_addRoot_44 rfl (lv_at hl 3 rfl) ?_
      refine lv_if_le (tgt := 110) hx hb dX8_addRoot_45 (by decide) (fun hc => ?_) (fun hc => ?_)
      · replace h := ite_t hc h
        cases h
        exact k1 _ rfl _ _ _ (lv_sub hl [0, 1, 2, 3] rfl) hw
      · replace h := ite_f hc h
        refine lv_aload_n hx hb dX8_addRoot_48 rfl (lv_at hl 0 rfl) ?_
        refine m_get (k := 36) (C := RX8) (T := TX8) (N := 18) (ref := "LiftFactorsModel") (v := .ref (adr 46)) hx hb hi hts inX8_u hown hw (by decide) rfl 16 (by decide) q_220 rfl rfl dX8_addRoot_49 ?_
        refine lv_iload_n hx hb dX8_addRoot_52 rfl (lv_at hl 3 rfl) ?_
        refine lv_iconst (v := (1 : Int32)) hx hb dX8_addRoot_53 (by decide) ?_
        refine lv_isub hx hb dX8_addRoot_54 ?_
        replace h := bnd h
        obtain ⟨v8, e8, h⟩ := h
        refine m_iald hx hb hi hw e8 dX8_addRoot_55 ?_
        refine lv_i2l (v := v8.toInt64) hx hb dX8_addRoot_56 rfl ?_
        refine lv_iload_n hx hb dX8_addRoot_57 rfl (lv_at hl 2 rfl) ?_
        refine lv_i2l (v := a1.toInt64) hx hb dX8_addRoot_58 rfl ?_
        refine lv_lmul hx hb dX8_addRoot_59 ?_
        refine lv_iload_n hx hb dX8_addRoot_60 rfl (lv_at hl 1 rfl) ?_
        refine lv_i2l (v := a0.toInt64) hx hb dX8_addRoot_61 rfl ?_
        refine lv_aload_n hx hb dX8_addRoot_62 rfl (lv_at hl 0 rfl) ?_
        refine m_get (k := 36) (C := RX8) (T := TX8) (N := 18) (ref := "LiftFactorsModel") (v := .ref (adr 47)) hx hb hi hts inX8_u hown hw (by decide) rfl 17 (by decide) q_221 rfl rfl dX8_addRoot_63 ?_
        refine lv_iload_n hx hb dX8_addRoot_66 rfl (lv_at hl 3 rfl) ?_
        refine lv_iconst (v := (1 : Int32)) hx hb dX8_addRoot_67 (by decide) ?_
        refine lv_isub hx hb dX8_addRoot_68 ?_
        replace h := bnd h
        obtain ⟨v9, e9, h⟩ := h
        refine m_iald hx hb hi hw e9 dX8_addRoot_69 ?_
        refine lv_i2l (v := v9.toInt64) hx hb dX8_addRoot_70 rfl ?_
        refine lv_lmul hx hb dX8_addRoot_71 ?_
        refine m_lcmp_le (tgt := 110) hx hb dX8_addRoot_72 dX8_addRoot_73 (by decide) (fun hc => ?_) (fun hc => ?_)
        · replace h := ite_t hc h
          cases h
          exact k1 _ rfl _ _ _ (lv_sub hl [0, 1, 2, 3] rfl) hw
        · replace h := ite_f hc h
          refine lv_aload_n hx hb dX8_addRoot_76 rfl (lv_at hl 0 rfl) ?_
          refine m_get (k := 36) (C := RX8) (T := TX8) (N := 18) (ref := "LiftFactorsModel") (v := .ref (adr 46)) hx hb hi hts inX8_u hown hw (by decide) rfl 16 (by decide) q_220 rfl rfl dX8_addRoot_77 ?_
          refine lv_iload_n hx hb dX8_addRoot_80 rfl (lv_at hl 3 rfl) ?_
          refine lv_aload_n hx hb dX8_addRoot_81 rfl (lv_at hl 0 rfl) ?_
          refine m_get (k := 36) (C := RX8) (T := TX8) (N := 18) (ref := "LiftFactorsModel") (v := .ref (adr 46)) hx hb hi hts inX8_u hown hw (by decide) rfl 16 (by decide) q_220 rfl rfl dX8_addRoot_82 ?_
          refine lv_iload_n hx hb dX8_addRoot_85 rfl (lv_at hl 3 rfl) ?_
          refine lv_iconst (v := (1 : Int32)) hx hb dX8_addRoot_86 (by decide) ?_
          refine lv_isub hx hb dX8_addRoot_87 ?_
          replace h := bnd h
          obtain ⟨v10, e10, h⟩ := h
          refine m_iald hx hb hi hw e10 dX8_addRoot_88 ?_
          replace h := bnd h
          obtain ⟨v11, e11, h⟩ := h
          refine m_iast hx hb hi hw e11 dX8_addRoot_89 (fun H locs hw => ?_)
          refine lv_aload_n hx hb dX8_addRoot_90 rfl (lv_at hl 0 rfl) ?_
          refine m_get (k := 36) (C := RX8) (T := TX8) (N := 18) (ref := "LiftFactorsModel") (v := .ref (adr 47)) hx hb hi hts inX8_u hown hw (by decide) rfl 17 (by decide) q_221 rfl rfl dX8_addRoot_91 ?_
          refine lv_iload_n hx hb dX8_addRoot_94 rfl (lv_at hl 3 rfl) ?_
          refine lv_aload_n hx hb dX8_addRoot_95 rfl (lv_at hl 0 rfl) ?_
          refine m_get (k := 36) (C := RX8) (T := TX8) (N := 18) (ref := "LiftFactorsModel") (v := .ref (adr 47)) hx hb hi hts inX8_u hown hw (by decide) rfl 17 (by decide) q_221 rfl rfl dX8_addRoot_96 ?_
          refine lv_iload_n hx hb dX8_addRoot_99 rfl (lv_at hl 3 rfl) ?_
          refine lv_iconst (v := (1 : Int32)) hx hb dX8_addRoot_100 (by decide) ?_
          refine lv_isub hx hb dX8_addRoot_101 ?_
          replace h := bnd h
          obtain ⟨v12, e12, h⟩ := h
          refine m_iald hx hb hi hw e12 dX8_addRoot_102 ?_
          replace h := bnd h
          obtain ⟨v13, e13, h⟩ := h
          refine m_iast hx hb hi hw e13 dX8_addRoot_103 (fun H locs hw => ?_)
          refine lv_iinc (v := v7 + (-1)) (lv' := [(3, .int (v7 + (-1))), (0, .ref (adr 36)), (1, .int a0), (2, .int a1)]) hx hb dX8_addRoot_104 hl (k := 3) rfl (inc_p _ (by decide)) (by decide) rfl (fun ls hl => ?_)
          refine lv_goto (tgt := 44) hx hb dX8_addRoot_107 (by decide) ?_
          cases h
          exact k2 _ rfl _ _ _ (lv_sub hl [1, 2, 3, 0] rfl) hw
    · clear hw hl
      intro ls H locs hl hw
      (try dsimp only at hl hw ⊢)
      refine lv_aload_n hx hb dX8_addRoot_110 rfl (lv_at hl 0 rfl) ?_
      refine m_get (k := 36) (C := RX8) (T := TX8) (N := 18) (ref := "LiftFactorsModel") (v := .ref (adr 46)) hx hb hi hts inX8_u hown hw (by decide) rfl 16 (by decide) q_220 rfl rfl dX8_addRoot_111 ?_
      refine lv_iload_n hx hb dX8_addRoot_114 rfl (lv_at hl 3 rfl) ?_
      refine lv_iload_n hx hb dX8_addRoot_115 rfl (lv_at hl 1 rfl) ?_
      replace h := bnd h
      obtain ⟨v17, e17, h⟩ := h
      refine m_iast hx hb hi hw e17 dX8_addRoot_116 (fun H locs hw => ?_)
      refine lv_aload_n hx hb dX8_addRoot_117 rfl (lv_at hl 0 rfl) ?_
      refine m_get (k := 36) (C := RX8) (T := TX8) (N := 18) (ref := "LiftFactorsModel") (v := .ref (adr 47)) hx hb hi hts inX8_u hown hw (by decide) rfl 17 (by decide) q_221 rfl rfl dX8_addRoot_118 ?_
      refine lv_iload_n hx hb dX8_addRoot_121 rfl (lv_at hl 3 rfl) ?_
      refine lv_iload_n hx hb dX8_addRoot_122 rfl (lv_at hl 2 rfl) ?_
      replace h := bnd h
      obtain ⟨v18, e18, h⟩ := h
      refine m_iast hx hb hi hw e18 dX8_addRoot_123 (fun H locs hw => ?_)
      refine lv_aload_n hx hb dX8_addRoot_124 rfl (lv_at hl 0 rfl) ?_
      refine lv_dup hx hb dX8_addRoot_125 rfl ?_
      refine m_get (k := 36) (C := RX8) (T := TX8) (N := 18) (ref := "LiftFactorsModel") (v := .int (v18.2 36 15)) hx hb hi hts inX8_u hown hw (by decide) rfl 15 (by decide) q_219 rfl rfl dX8_addRoot_126 ?_
      refine lv_iconst (v := (1 : Int32)) hx hb dX8_addRoot_129 (by decide) ?_
      refine lv_iadd hx hb dX8_addRoot_130 ?_
      replace h := bnd h
      obtain ⟨v19, e19, h⟩ := h
      obtain rfl := pt_s e19
      refine m_putI (k := 36) (C := RX8) (T := TX8) (N := 18) (ref := "LiftFactorsModel") hx hb hi hts inX8_u tyX8 tyX8_ok nmX8 hown hw (by decide) rfl 15 (by decide) q_219 rfl rfl (by decide +kernel) rfl dX8_addRoot_131 (fun H locs hw => ?_)
      obtain ⟨v19, e19⟩ : ∃ z9, z9 = sI v18 36 15 ((v18.2 36 15) + (1 : Int32)) := ⟨_, rfl⟩
      rw [← e19] at h hw
      cases h
      exact kr _ _ _ _ dX8_addRoot_134 hw
  · replace h := ite_t hc h
    cases h
    exact kr _ _ _ _ dX8_addRoot_38 hw
theorem cc_X8_addRoot {l : Launch} {G : gG} {adr : Nat → Nat} {sz : Nat} (hi : adi adr) {n : Nat} {a0 : Int32} {a1 : Int32} {M M' : Mem} (h : f_X8_addRoot n a0 a1 M = some M') : mV l yX8_addRoot cX8_addRoot 4 none { frames := 2, cells := 0, slots := 0, locals := 56 } G adr [.ref (adr 36), .int a0, .int a1] M sz M' := by
  refine wEnter (by decide) (Nat.le_of_ble_eq_true rfl) ?_
  intro p e s m below meth c ls cx hinit hl hsz hw
  exact b_X8_addRoot cx hi h (fun pc ls H locs hd hw => w_vret (post := fun (u : Mem) => u = M') (lf := fun u => (LL adr, wf G adr u)) cx.1 cx.2.1 cx.2.2.1 cx.2.2.2.2.2.2 M' hw rfl hd) hl hw
theorem q_222 : Cond.methodLink RX8 217 yX8_addRoot ∈ uU := uU_in (by decide +kernel) (by decide +kernel)
theorem q_223 : Cond.instanceMethod yX8_addRoot ∈ uU := uU_in (by decide +kernel) (by decide +kernel)
theorem q_224 : Cond.selects yX8_addRoot.cls yX8_addRoot yX8_addRoot ∈ uU := uU_in (by decide +kernel) (by decide +kernel)
theorem q_225 : Cond.initialized yX8_addRoot.cls ∈ uU := uU_in (by decide +kernel) (by decide +kernel)
theorem q_226 : Cond.code yX8_addRoot cX8_addRoot 4 none ∈ uU := uU_in (by decide +kernel) (by decide +kernel)
def l_X8_findRoots_24 (M3 : Mem) : Int32 → Option ((Int32) ⊕ (Int32)) := fun v5 =>
  Option.bind (ldJ M3 41 ((0 : Int32) + v5)) fun v6 =>
  if v6 = (0 : Int64) then
    some (.inr (v5 + 1))
  else
    some (.inl v5)
def l_X8_findRoots_93 (n : Nat) (v16 : Int32) (c17 : Int32) (c18 : Int32) : Mem × Int32 → Option ((Mem) ⊕ (Mem × Int32)) := fun (M19, v20) =>
  if c17 < v20 then
    some (.inl M19)
  else
    Option.bind (rmI c18 v16) fun v21 =>
    if v21 = 0 then
      Option.bind (rmI c17 v20) fun v22 =>
      Option.bind (
        if v22 = 0 then
          Option.bind (f_X8_common n v20.toInt64 v16.toInt64) fun v23 =>
          if v23 = (1 : Int64) then
            Option.bind (f_X8_addRoot n v20 v16 M19) fun v24 =>
            Option.bind (f_X8_addRoot n (-v20) v16 v24) fun v25 =>
            some v25
          else
            some M19
        else
          some M19) fun M26 =>
      some (.inr (M26, v20 + 1))
    else
      some (.inl M19)
def l_X8_findRoots_84 (n : Nat) (c17 : Int32) (c18 : Int32) : Mem × Int32 → Option ((Mem) ⊕ (Mem × Int32)) := fun (M15, v16) =>
  if c18 < v16 then
    some (.inl M15)
  else
    Option.bind (lpF (l_X8_findRoots_93 n v16 c17 c18) n (M15, (1 : Int32))) fun M29 =>
    some (.inr (M29, v16 + 1))
def f_X8_findRoots (n : Nat) (M : Mem) : Option Mem :=
  Option.bind (ptI M 36 15 (0 : Int32)) fun v1 =>
  Option.bind (f_X8_primitive n (0 : Int32) v1) fun (v2, M3) =>
  Option.bind (ldI M3 42 (0 : Int32)) fun v4 =>
  if (1 : Int32) ≤ v4 then
    Option.bind (lpF (l_X8_findRoots_24 M3) n (0 : Int32)) fun v8 =>
    Option.bind (
      if v8 ≤ 0 then
        some M3
      else
        Option.bind (f_X8_addRoot n (0 : Int32) (1 : Int32) M3) fun v9 =>
        some v9) fun M10 =>
    Option.bind (ldJ M10 41 ((0 : Int32) + v8)) fun v11 =>
    Option.bind (f_X8_abs v11) fun v12 =>
    Option.bind (ldI M10 42 (0 : Int32)) fun v13 =>
    Option.bind (ldJ M10 41 ((0 : Int32) + v13)) fun v14 =>
    Option.bind (lpF (l_X8_findRoots_84 n v12.toInt32 v14.toInt32) n (M10, (1 : Int32))) fun M31 =>
    some M31
  else
    some M3
set_option maxRecDepth 100000 in
set_option maxHeartbeats 8000000 in
theorem b_X8_findRoots {p : Program} {l : Launch} {e : Env} {s : State} {m : MethodId} {args : Array Value} {below : List Frame} {meth : Method} {c : Code} {Q : State → Prop} {G : gG} {A : Nat → Prop} {adr : Nat → Nat} (cx : cX p s m args meth c cX8_findRoots none 6 yX8_findRoots.cls) (hi : adi adr) {n : Nat} {M M' : Mem} 
    (h : f_X8_findRoots n M = some M')
    (kr : ∀ (pc : Nat) (ls : Array Slot) (H : Heap) (locs : List Loc), decode cX8_findRoots pc = .ok (.return_, 1) → wH G A s.heap s (LL adr) (wf G adr M') H locs → W p l e { frames := 3, cells := 0, slots := 0, locals := 79 } s m args below meth c H locs 0 0 Q (F0 m pc ls []))
    {ls : Array Slot} {H : Heap} {locs : List Loc} (hl : lv_has ls 6 [(0, .ref (adr 36))]) (hw : wH G A s.heap s (LL adr) (wf G adr M) H locs) : W p l e { frames := 3, cells := 0, slots := 0, locals := 79 } s m args below meth c H locs 0 0 Q (F0 m 0 ls []) := by
  obtain ⟨hx, hb, -, -, hown, hts, -⟩ := id cx
  have hown : s.vm.findClass RX8 = some m.cls := hown
  unfold f_X8_findRoots at h
  refine lv_aload_n hx hb dX8_findRoots_0 rfl (lv_at hl 0 rfl) ?_
  refine lv_iconst (v := (0 : Int32)) hx hb dX8_findRoots_1 (by decide) ?_
  replace h := bnd h
  obtain ⟨v1, e1, h⟩ := h
  obtain rfl := pt_s e1
  refine m_putI (k := 36) (C := RX8) (T := TX8) (N := 18) (ref := "LiftFactorsModel") hx hb hi hts inX8_u tyX8 tyX8_ok nmX8 hown hw (by decide) rfl 15 (by decide) q_219 rfl rfl (by decide +kernel) rfl dX8_findRoots_2 (fun H locs hw => ?_)
  obtain ⟨v1, e1⟩ : ∃ z9, z9 = sI M 36 15 (0 : Int32) := ⟨_, rfl⟩
  rw [← e1] at h hw
  refine lv_aload_n hx hb dX8_findRoots_5 rfl (lv_at hl 0 rfl) ?_
  refine lv_iconst (v := (0 : Int32)) hx hb dX8_findRoots_6 (by decide) ?_
  replace h := bnd h
  obtain ⟨⟨v2, M3⟩, e2, h⟩ := h
  refine m_callVl (k := 36) (As := [.int (0 : Int32)]) (rest := []) cx.fix hi hw (cc_X8_primitive (l := l) (G := G) (sz := H.size) hi e2) (by decide) rfl rfl (w_cV 1 hts q_64 q_65 q_66 q_67 q_68 rfl rfl (by decide) (by decide)) hl.1 rfl (lv_room (Nat.le_of_ble_eq_true rfl)) dX8_findRoots_7 (fun H locs hw => ?_)
  refine lv_pop2_2 hx hb dX8_findRoots_10 rfl ?_
  refine lv_aload_n hx hb dX8_findRoots_11 rfl (lv_at hl 0 rfl) ?_
  refine m_get (k := 36) (C := RX8) (T := TX8) (N := 18) (ref := "LiftFactorsModel") (v := .ref (adr 42)) hx hb hi hts inX8_u hown hw (by decide) rfl 8 (by decide) q_1 rfl rfl dX8_findRoots_12 ?_
  refine lv_iconst (v := (0 : Int32)) hx hb dX8_findRoots_15 (by decide) ?_
  replace h := bnd h
  obtain ⟨v4, e4, h⟩ := h
  refine m_iald hx hb hi hw e4 dX8_findRoots_16 ?_
  refine lv_iconst (v := (1 : Int32)) hx hb dX8_findRoots_17 (by decide) ?_
  refine lv_icmp_ge (tgt := 22) hx hb dX8_findRoots_18 (by decide) (fun hc => ?_) (fun hc => ?_)
  · replace h := ite_t hc h
    refine lv_iconst (v := (0 : Int32)) hx hb dX8_findRoots_22 (by decide) ?_
    refine lv_istore_n (lv' := [(1, .int (0 : Int32)), (0, .ref (adr 36))]) hx hb dX8_findRoots_23 rfl hl (by decide) rfl (fun ls hl => ?_)
    replace h := bnd h
    obtain ⟨v8, j7, h⟩ := h
    refine lp_W (Wst := fun (st : Int32) => ∀ (ls : Array Slot) (H : Heap) (locs : List Loc), lv_has ls 6 [(0, .ref (adr 36)), (1, .int st)] → wH G A s.heap s (LL adr) (wf G adr M3) H locs → W p l e { frames := 3, cells := 0, slots := 0, locals := 79 } s m args below meth c H locs 0 0 Q (F0 m 24 ls [])) (fin := fun (r : Int32) => ∀ (ls : Array Slot) (H : Heap) (locs : List Loc), lv_has ls 6 [(0, .ref (adr 36)), (1, .int r)] → wH G A s.heap s (LL adr) (wf G adr M3) H locs → W p l e { frames := 3, cells := 0, slots := 0, locals := 79 } s m args below meth c H locs 0 0 Q (F0 m 43 ls [])) ?_ n _ _ j7 ?_ _ _ _ (lv_sub hl [1, 0] rfl) hw
    · clear h j7 hw hl
      intro v5 x h k1 k2 ls H locs hl hw
      (try dsimp only at k1 k2 hl hw ⊢)
      unfold l_X8_findRoots_24 at h
      (try dsimp only at h)
      refine lv_aload_n hx hb dX8_findRoots_24 rfl (lv_at hl 0 rfl) ?_
      refine m_get (k := 36) (C := RX8) (T := TX8) (N := 18) (ref := "LiftFactorsModel") (v := .ref (adr 41)) hx hb hi hts inX8_u hown hw (by decide) rfl 7 (by decide) q_0 rfl rfl dX8_findRoots_25 ?_
      refine lv_iconst (v := (0 : Int32)) hx hb dX8_findRoots_28 (by decide) ?_
      refine lv_iload_n hx hb dX8_findRoots_29 rfl (lv_at hl 1 rfl) ?_
      refine lv_iadd hx hb dX8_findRoots_30 ?_
      replace h := bnd h
      obtain ⟨v6, e6, h⟩ := h
      refine m_lald hx hb hi hw e6 dX8_findRoots_31 ?_
      refine lv_lconst (v := (0 : Int64)) hx hb dX8_findRoots_32 (by decide) ?_
      refine m_lcmp_ne (tgt := 43) hx hb dX8_findRoots_33 dX8_findRoots_34 (by decide) (fun hc => ?_) (fun hc => ?_)
      · replace h := ite_f hc h
        cases h
        exact k1 _ rfl _ _ _ (lv_sub hl [0, 1] rfl) hw
      · replace h := ite_t hc h
        refine lv_iinc (v := v5 + 1) (lv' := [(1, .int (v5 + 1)), (0, .ref (adr 36))]) hx hb dX8_findRoots_37 hl (k := 1) rfl (inc_p _ (by decide)) (by decide) rfl (fun ls hl => ?_)
        refine lv_goto (tgt := 24) hx hb dX8_findRoots_40 (by decide) ?_
        cases h
        exact k2 _ rfl _ _ _ (lv_sub hl [1, 0] rfl) hw
    · clear hw hl
      intro ls H locs hl hw
      (try dsimp only at hl hw ⊢)
      refine lv_iload_n hx hb dX8_findRoots_43 rfl (lv_at hl 1 rfl) ?_
      replace h := bnd h
      obtain ⟨M10, j32, h⟩ := h
      have kj : ∀ (ls : Array Slot) (H : Heap) (locs : List Loc), lv_has ls 6 [(0, .ref (adr 36)), (1, .int v8)] → wH G A s.heap s (LL adr) (wf G adr M10) H locs → W p l e { frames := 3, cells := 0, slots := 0, locals := 79 } s m args below meth c H locs 0 0 Q (F0 m 53 ls []) := by
        intro ls H locs hl hw
        refine lv_aload_n hx hb dX8_findRoots_53 rfl (lv_at hl 0 rfl) ?_
        refine m_get (k := 36) (C := RX8) (T := TX8) (N := 18) (ref := "LiftFactorsModel") (v := .ref (adr 41)) hx hb hi hts inX8_u hown hw (by decide) rfl 7 (by decide) q_0 rfl rfl dX8_findRoots_54 ?_
        refine lv_iconst (v := (0 : Int32)) hx hb dX8_findRoots_57 (by decide) ?_
        refine lv_iload_n hx hb dX8_findRoots_58 rfl (lv_at hl 1 rfl) ?_
        refine lv_iadd hx hb dX8_findRoots_59 ?_
        replace h := bnd h
        obtain ⟨v11, e11, h⟩ := h
        refine m_lald hx hb hi hw e11 dX8_findRoots_60 ?_
        replace h := bnd h
        obtain ⟨v12, e12, h⟩ := h
        refine m_callSl (As := [.long v11]) (rest := []) cx.fix hw (cc_X8_abs (l := l) (G := G) (sz := H.size) (M := M10) hi e12) (w_cS 1 hts q_2 q_3 q_4 q_5 rfl rfl (by decide) (by decide)) hl.1 rfl (lv_room (Nat.le_of_ble_eq_true rfl)) dX8_findRoots_61 (fun H locs hw => ?_)
        refine lv_l2i (v := v12.toInt32) hx hb dX8_findRoots_64 rfl ?_
        refine lv_istore_n (lv' := [(2, .int v12.toInt32), (0, .ref (adr 36)), (1, .int v8)]) hx hb dX8_findRoots_65 rfl hl (by decide) rfl (fun ls hl => ?_)
        refine lv_aload_n hx hb dX8_findRoots_66 rfl (lv_at hl 1 rfl) ?_
        refine m_get (k := 36) (C := RX8) (T := TX8) (N := 18) (ref := "LiftFactorsModel") (v := .ref (adr 41)) hx hb hi hts inX8_u hown hw (by decide) rfl 7 (by decide) q_0 rfl rfl dX8_findRoots_67 ?_
        refine lv_iconst (v := (0 : Int32)) hx hb dX8_findRoots_70 (by decide) ?_
        refine lv_aload_n hx hb dX8_findRoots_71 rfl (lv_at hl 1 rfl) ?_
        refine m_get (k := 36) (C := RX8) (T := TX8) (N := 18) (ref := "LiftFactorsModel") (v := .ref (adr 42)) hx hb hi hts inX8_u hown hw (by decide) rfl 8 (by decide) q_1 rfl rfl dX8_findRoots_72 ?_
        refine lv_iconst (v := (0 : Int32)) hx hb dX8_findRoots_75 (by decide) ?_
        replace h := bnd h
        obtain ⟨v13, e13, h⟩ := h
        refine m_iald hx hb hi hw e13 dX8_findRoots_76 ?_
        refine lv_iadd hx hb dX8_findRoots_77 ?_
        replace h := bnd h
        obtain ⟨v14, e14, h⟩ := h
        refine m_lald hx hb hi hw e14 dX8_findRoots_78 ?_
        refine lv_l2i (v := v14.toInt32) hx hb dX8_findRoots_79 rfl ?_
        refine lv_istore_n (lv' := [(3, .int v14.toInt32), (2, .int v12.toInt32), (0, .ref (adr 36)), (1, .int v8)]) hx hb dX8_findRoots_80 rfl hl (by decide) rfl (fun ls hl => ?_)
        refine lv_iconst (v := (1 : Int32)) hx hb dX8_findRoots_81 (by decide) ?_
        refine lv_istore (lv' := [(4, .int (1 : Int32)), (3, .int v14.toInt32), (2, .int v12.toInt32), (0, .ref (adr 36)), (1, .int v8)]) hx hb dX8_findRoots_82 hl (by decide) rfl (fun ls hl => ?_)
        replace h := bnd h
        obtain ⟨M31, j30, h⟩ := h
        refine lp_W (Wst := fun (st : Mem × Int32) => ∀ (ls : Array Slot) (H : Heap) (locs : List Loc), lv_has ls 6 [(0, .ref (adr 36)), (2, .int v12.toInt32), (3, .int v14.toInt32), (4, .int st.2)] → wH G A s.heap s (LL adr) (wf G adr st.1) H locs → W p l e { frames := 3, cells := 0, slots := 0, locals := 79 } s m args below meth c H locs 0 0 Q (F0 m 84 ls [])) (fin := fun (r : Mem) => ∀ (ls : Array Slot) (H : Heap) (locs : List Loc), lv_has ls 6 [] → wH G A s.heap s (LL adr) (wf G adr r) H locs → W p l e { frames := 3, cells := 0, slots := 0, locals := 79 } s m args below meth c H locs 0 0 Q (F0 m 156 ls [])) ?_ n _ _ j30 ?_ _ _ _ (lv_sub hl [3, 2, 1, 0] rfl) hw
        · clear h j30 hw hl
          intro ⟨M15, v16⟩ x h k1 k2 ls H locs hl hw
          (try dsimp only at k1 k2 hl hw ⊢)
          unfold l_X8_findRoots_84 at h
          (try dsimp only at h)
          refine lv_iload hx hb dX8_findRoots_84 (lv_at hl 3 rfl) ?_
          refine lv_iload_n hx hb dX8_findRoots_86 rfl (lv_at hl 2 rfl) ?_
          refine lv_icmp_gt (tgt := 156) hx hb dX8_findRoots_87 (by decide) (fun hc => ?_) (fun hc => ?_)
          · replace h := ite_t hc h
            cases h
            exact k1 _ rfl _ _ _ (lv_sub hl [] rfl) hw
          · replace h := ite_f hc h
            refine lv_iconst (v := (1 : Int32)) hx hb dX8_findRoots_90 (by decide) ?_
            refine lv_istore (lv' := [(5, .int (1 : Int32)), (0, .ref (adr 36)), (2, .int c17), (3, .int c18), (4, .int v16)]) hx hb dX8_findRoots_91 hl (by decide) rfl (fun ls hl => ?_)
            replace h := bnd h
            obtain ⟨M29, j28, h⟩ := h
            refine lp_W (Wst := fun (st : Mem × Int32) => ∀ (ls : Array Slot) (H : Heap) (locs : List Loc), lv_has ls 6 [(0, .ref (adr 36)), (2, .int c17), (3, .int c18), (4, .int v16), (5, .int st.2)] → wH G A s.heap s (LL adr) (wf G adr st.1) H locs → W p l e { frames := 3, cells := 0, slots := 0, locals := 79 } s m args below meth c H locs 0 0 Q (F0 m 93 ls [])) (fin := fun (r : Mem) => ∀ (ls : Array Slot) (H : Heap) (locs : List Loc), lv_has ls 6 [(0, .ref (adr 36)), (2, .int c17), (3, .int c18), (4, .int v16)] → wH G A s.heap s (LL adr) (wf G adr r) H locs → W p l e { frames := 3, cells := 0, slots := 0, locals := 79 } s m args below meth c H locs 0 0 Q (F0 m 150 ls [])) ?_ n _ _ j28 ?_ _ _ _ (lv_sub hl [1, 2, 3, 4, 0] rfl) hw
            · clear h j28 hw hl
              intro ⟨M19, v20⟩ x h k1 k2 ls H locs hl hw
              (try dsimp only at k1 k2 hl hw ⊢)
              unfold l_X8_findRoots_93 at h
              (try dsimp only at h)
              refine lv_iload hx hb dX8_findRoots_93 (lv_at hl 4 rfl) ?_
              refine lv_iload_n hx hb dX8_findRoots_95 rfl (lv_at hl 1 rfl) ?_
              refine lv_icmp_gt (tgt := 150) hx hb dX8_findRoots_96 (by decide) (fun hc => ?_) (fun hc => ?_)
              · replace h := ite_t hc h
                cases h
                exact k1 _ rfl _ _ _ (lv_sub hl [0, 1, 2, 3] rfl) hw
              · replace h := ite_f hc h
                refine lv_iload_n hx hb dX8_findRoots_99 rfl (lv_at hl 2 rfl) ?_
                refine lv_iload hx hb dX8_findRoots_100 (lv_at hl 3 rfl) ?_
                replace h := bnd h
                obtain ⟨v21, e21, h⟩ := h
                obtain ⟨ne21, rfl⟩ := rmI_ok e21
                refine lv_irem hx hb dX8_findRoots_102 ne21 ?_
                obtain ⟨v21, e21⟩ : ∃ z9, z9 = c18 - c18 / v16 * v16 := ⟨_, rfl⟩
                rw [← e21] at h ⊢
                refine lv_if_ne (tgt := 150) hx hb dX8_findRoots_103 (by decide) (fun hc => ?_) (fun hc => ?_)
                · replace h := ite_f hc h
                  cases h
                  exact k1 _ rfl _ _ _ (lv_sub hl [0, 1, 2, 3] rfl) hw
                · replace h := ite_t hc h
                  refine lv_iload_n hx hb dX8_findRoots_106 rfl (lv_at hl 1 rfl) ?_
                  refine lv_iload hx hb dX8_findRoots_107 (lv_at hl 4 rfl) ?_
                  replace h := bnd h
                  obtain ⟨v22, e22, h⟩ := h
                  obtain ⟨ne22, rfl⟩ := rmI_ok e22
                  refine lv_irem hx hb dX8_findRoots_109 ne22 ?_
                  obtain ⟨v22, e22⟩ : ∃ z9, z9 = c17 - c17 / v20 * v20 := ⟨_, rfl⟩
                  rw [← e22] at h ⊢
                  replace h := bnd h
                  obtain ⟨M26, j27, h⟩ := h
                  have kj : ∀ (ls : Array Slot) (H : Heap) (locs : List Loc), lv_has ls 6 [(0, .ref (adr 36)), (2, .int c17), (3, .int c18), (4, .int v16), (5, .int v20)] → wH G A s.heap s (LL adr) (wf G adr M26) H locs → W p l e { frames := 3, cells := 0, slots := 0, locals := 79 } s m args below meth c H locs 0 0 Q (F0 m 144 ls []) := by
                    intro ls H locs hl hw
                    refine lv_iinc (v := v20 + 1) (lv' := [(5, .int (v20 + 1)), (0, .ref (adr 36)), (2, .int c17), (3, .int c18), (4, .int v16)]) hx hb dX8_findRoots_144 hl (k := 4) rfl (inc_p _ (by decide)) (by decide) rfl (fun ls hl => ?_)
                    refine lv_goto (tgt := 93) hx hb dX8_findRoots_147 (by decide) ?_
                    cases h
                    exact k2 _ rfl _ _ _ (lv_sub hl [1, 2, 3, 4, 0] rfl) hw
                  clear h
                  replace h := j27
                  clear j27
                  refine lv_if_ne (tgt := 144) hx hb dX8_findRoots_110 (by decide) (fun hc => ?_) (fun hc => ?_)
                  · replace h := ite_f hc h
                    cases h
                    exact kj _ _ _ (lv_sub hl [0, 1, 2, 3, 4] rfl) hw
                  · replace h := ite_t hc h
                    refine lv_iload hx hb dX8_findRoots_113 (lv_at hl 4 rfl) ?_
                    refine lv_i2l (v := v20.toInt64) hx hb dX8_findRoots_115 rfl ?_
                    refine lv_iload hx hb dX8_findRoots_116 (lv_at hl 3 rfl) ?_
                    refine lv_i2l (v := v16.toInt64) hx hb dX8_findRoots_118 rfl ?_
                    replace h := bnd h
                    obtain ⟨v23, e23, h⟩ := h
                    refine m_callSl (As := [.long v20.toInt64, .long v16.toInt64]) (rest := []) cx.fix hw (cc_X8_common (l := l) (G := G) (sz := H.size) (M := M19) hi e23) (w_cS 2 hts q_6 q_7 q_8 q_9 rfl rfl (by decide) (by decide)) hl.1 rfl (lv_room (Nat.le_of_ble_eq_true rfl)) dX8_findRoots_119 (fun H locs hw => ?_)
                    refine lv_lconst (v := (1 : Int64)) hx hb dX8_findRoots_122 (by decide) ?_
                    refine m_lcmp_ne (tgt := 144) hx hb dX8_findRoots_123 dX8_findRoots_124 (by decide) (fun hc => ?_) (fun hc => ?_)
                    · replace h := ite_f hc h
                      cases h
                      exact kj _ _ _ (lv_sub hl [0, 1, 2, 3, 4] rfl) hw
                    · replace h := ite_t hc h
                      refine lv_aload_n hx hb dX8_findRoots_127 rfl (lv_at hl 0 rfl) ?_
                      refine lv_iload hx hb dX8_findRoots_128 (lv_at hl 4 rfl) ?_
                      refine lv_iload hx hb dX8_findRoots_130 (lv_at hl 3 rfl) ?_
                      replace h := bnd h
                      obtain ⟨v24, e24, h⟩ := h
                      refine m_callVv (k := 36) (As := [.int v20, .int v16]) (rest := []) cx.fix hi hw (cc_X8_addRoot (l := l) (G := G) (sz := H.size) hi e24) (by decide) rfl rfl (w_cV 2 hts q_222 q_223 q_224 q_225 q_226 rfl rfl (by decide) (by decide)) hl.1 rfl (lv_room (Nat.le_of_ble_eq_true rfl)) dX8_findRoots_132 (fun H locs hw => ?_)
                      refine lv_aload_n hx hb dX8_findRoots_135 rfl (lv_at hl 0 rfl) ?_
                      refine lv_iload hx hb dX8_findRoots_136 (lv_at hl 4 rfl) ?_
                      refine lv_ineg hx hb dX8_findRoots_138 ?_
                      refine lv_iload hx hb dX8_findRoots_139 (lv_at hl 3 rfl) ?_
                      replace h := bnd h
                      obtain ⟨v25, e25, h⟩ := h
                      refine m_callVv (k := 36) (As := [.int (-v20), .int v16]) (rest := []) cx.fix hi hw (cc_X8_addRoot (l := l) (G := G) (sz := H.size) hi e25) (by decide) rfl rfl (w_cV 2 hts q_222 q_223 q_224 q_225 q_226 rfl rfl (by decide) (by decide)) hl.1 rfl (lv_room (Nat.le_of_ble_eq_true rfl)) dX8_findRoots_141 (fun H locs hw => ?_)
                      cases h
                      exact kj _ _ _ (lv_sub hl [0, 1, 2, 3, 4] rfl) hw
            · clear hw hl
              intro ls H locs hl hw
              (try dsimp only at hl hw ⊢)
              refine lv_iinc (v := v16 + 1) (lv' := [(4, .int (v16 + 1)), (0, .ref (adr 36)), (2, .int c17), (3, .int c18)]) hx hb dX8_findRoots_150 hl (k := 3) rfl (inc_p _ (by decide)) (by decide) rfl (fun ls hl => ?_)
              refine lv_goto (tgt := 84) hx hb dX8_findRoots_153 (by decide) ?_
              cases h
              exact k2 _ rfl _ _ _ (lv_sub hl [1, 2, 3, 0] rfl) hw
        · clear hw hl
          intro ls H locs hl hw
          (try dsimp only at hl hw ⊢)
          cases h
          exact kr _ _ _ _ dX8_findRoots_156 hw
      clear h
      replace h := j32
      clear j32
      refine lv_if_le (tgt := 53) hx hb dX8_findRoots_44 (by decide) (fun hc => ?_) (fun hc => ?_)
      · replace h := ite_t hc h
        cases h
        exact kj _ _ _ (lv_sub hl [0, 1] rfl) hw
      · replace h := ite_f hc h
        refine lv_aload_n hx hb dX8_findRoots_47 rfl (lv_at hl 0 rfl) ?_
        refine lv_iconst (v := (0 : Int32)) hx hb dX8_findRoots_48 (by decide) ?_
        refine lv_iconst (v := (1 : Int32)) hx hb dX8_findRoots_49 (by decide) ?_
        replace h := bnd h
        obtain ⟨v9, e9, h⟩ := h
        refine m_callVv (k := 36) (As := [.int (0 : Int32), .int (1 : Int32)]) (rest := []) cx.fix hi hw (cc_X8_addRoot (l := l) (G := G) (sz := H.size) hi e9) (by decide) rfl rfl (w_cV 2 hts q_222 q_223 q_224 q_225 q_226 rfl rfl (by decide) (by decide)) hl.1 rfl (lv_room (Nat.le_of_ble_eq_true rfl)) dX8_findRoots_50 (fun H locs hw => ?_)
        cases h
        exact kj _ _ _ (lv_sub hl [0, 1] rfl) hw
  · replace h := ite_f hc h
    cases h
    exact kr _ _ _ _ dX8_findRoots_21 hw
theorem cc_X8_findRoots {l : Launch} {G : gG} {adr : Nat → Nat} {sz : Nat} (hi : adi adr) {n : Nat} {M M' : Mem} (h : f_X8_findRoots n M = some M') : mV l yX8_findRoots cX8_findRoots 6 none { frames := 3, cells := 0, slots := 0, locals := 79 } G adr [.ref (adr 36)] M sz M' := by
  refine wEnter (by decide) (Nat.le_of_ble_eq_true rfl) ?_
  intro p e s m below meth c ls cx hinit hl hsz hw
  exact b_X8_findRoots cx hi h (fun pc ls H locs hd hw => w_vret (post := fun (u : Mem) => u = M') (lf := fun u => (LL adr, wf G adr u)) cx.1 cx.2.1 cx.2.2.1 cx.2.2.2.2.2.2 M' hw rfl hd) hl hw
theorem q_227 : Cond.methodLink RX8 220 yX8_findRoots ∈ uU := uU_in (by decide +kernel) (by decide +kernel)
theorem q_228 : Cond.instanceMethod yX8_findRoots ∈ uU := uU_in (by decide +kernel) (by decide +kernel)
theorem q_229 : Cond.selects yX8_findRoots.cls yX8_findRoots yX8_findRoots ∈ uU := uU_in (by decide +kernel) (by decide +kernel)
theorem q_230 : Cond.initialized yX8_findRoots.cls ∈ uU := uU_in (by decide +kernel) (by decide +kernel)
theorem q_231 : Cond.code yX8_findRoots cX8_findRoots 6 none ∈ uU := uU_in (by decide +kernel) (by decide +kernel)
def f_X8_root (n : Nat) (a0 : Int32) (a1 : Int32) (a2 : Int32) (M : Mem) : Option (Int32 × Mem) :=
  Option.bind (f_X8_isPoly a0) fun v1 =>
  Option.bind (
    if v1 = 0 then
      some (1 : Int32)
    else
      some (0 : Int32)) fun v2 =>
  Option.bind (ptI M 36 3 v2) fun v3 =>
  if (v3.2 36 3) = 0 then
    Option.bind (f_X8_load n a0 (0 : Int32) v3) fun v4 =>
    Option.bind (ptI v4 36 15 (0 : Int32)) fun v5 =>
    Option.bind (ldI v5 42 (0 : Int32)) fun v6 =>
    Option.bind (
      if v6 < 0 then
        some v5
      else
        Option.bind (f_X8_findRoots n v5) fun v7 =>
        some v7) fun M8 =>
    Option.bind (
      if a1 < 0 then
        some (2 : Int32)
      else
        if (M8.2 36 15) ≤ a1 then
          some (2 : Int32)
        else
          if a2 < 0 then
            some (2 : Int32)
          else
            if a2 ≤ (1 : Int32) then
              some (0 : Int32)
            else
              some (2 : Int32)) fun v9 =>
    Option.bind (ptI M8 36 3 v9) fun v10 =>
    if (v10.2 36 3) = 0 then
      Option.bind (
        if a2 = 0 then
          Option.bind (ldI v10 46 a1) fun v12 =>
          some v12
        else
          Option.bind (ldI v10 47 a1) fun v11 =>
          some v11) fun v13 =>
      some (v13, v10)
    else
      some ((0 : Int32), v10)
  else
    some ((0 : Int32), v3)
set_option maxRecDepth 100000 in
set_option maxHeartbeats 8000000 in
theorem b_X8_root {p : Program} {l : Launch} {e : Env} {s : State} {m : MethodId} {args : Array Value} {below : List Frame} {meth : Method} {c : Code} {Q : State → Prop} {G : gG} {A : Nat → Prop} {adr : Nat → Nat} (cx : cX p s m args meth c cX8_root (some .int) 4 yX8_root.cls) (hi : adi adr) {n : Nat} {a0 : Int32} {a1 : Int32} {a2 : Int32} {M M' : Mem} {r : Int32} 
    (h : f_X8_root n a0 a1 a2 M = some (r, M'))
    (kr : ∀ (pc : Nat) (ls : Array Slot) (H : Heap) (locs : List Loc), decode cX8_root pc = .ok (.ireturn, 1) → wH G A s.heap s (LL adr) (wf G adr M') H locs → W p l e { frames := 4, cells := 0, slots := 0, locals := 104 } s m args below meth c H locs 0 0 Q (F0 m pc ls [.int r]))
    {ls : Array Slot} {H : Heap} {locs : List Loc} (hl : lv_has ls 4 [(0, .ref (adr 36)), (1, .int a0), (2, .int a1), (3, .int a2)]) (hw : wH G A s.heap s (LL adr) (wf G adr M) H locs) : W p l e { frames := 4, cells := 0, slots := 0, locals := 104 } s m args below meth c H locs 0 0 Q (F0 m 0 ls []) := by
  obtain ⟨hx, hb, -, -, hown, hts, -⟩ := id cx
  have hown : s.vm.findClass RX8 = some m.cls := hown
  unfold f_X8_root at h
  refine lv_aload_n hx hb dX8_root_0 rfl (lv_at hl 0 rfl) ?_
  refine lv_iload_n hx hb dX8_root_1 rfl (lv_at hl 1 rfl) ?_
  replace h := bnd h
  obtain ⟨v1, e1, h⟩ := h
  refine m_callSi (As := [.int a0]) (rest := [.ref (adr 36)]) cx.fix hw (cc_X8_isPoly (l := l) (G := G) (sz := H.size) (M := M) hi e1) (w_cS 1 hts q_167 q_168 q_169 q_170 rfl rfl (by decide) (by decide)) hl.1 rfl (lv_room (Nat.le_of_ble_eq_true rfl)) dX8_root_2 (fun H locs hw => ?_)
  replace h := bnd h
  obtain ⟨v2, j17, h⟩ := h
  have kj : ∀ (ls : Array Slot) (H : Heap) (locs : List Loc), lv_has ls 4 [(0, .ref (adr 36)), (1, .int a0), (2, .int a1), (3, .int a2)] → wH G A s.heap s (LL adr) (wf G adr M) H locs → W p l e { frames := 4, cells := 0, slots := 0, locals := 104 } s m args below meth c H locs 0 0 Q (F0 m 13 ls [.int v2, .ref (adr 36)]) := by
    intro ls H locs hl hw
    replace h := bnd h
    obtain ⟨v3, e3, h⟩ := h
    obtain rfl := pt_s e3
    refine m_putI (k := 36) (C := RX8) (T := TX8) (N := 18) (ref := "LiftFactorsModel") hx hb hi hts inX8_u tyX8 tyX8_ok nmX8 hown hw (by decide) rfl 3 (by decide) q_171 rfl rfl (by decide +kernel) rfl dX8_root_13 (fun H locs hw => ?_)
    obtain ⟨v3, e3⟩ : ∃ z9, z9 = sI M 36 3 v2 := ⟨_, rfl⟩
    rw [← e3] at h hw
    refine lv_aload_n hx hb dX8_root_16 rfl (lv_at hl 0 rfl) ?_
    refine m_get (k := 36) (C := RX8) (T := TX8) (N := 18) (ref := "LiftFactorsModel") (v := .int (v3.2 36 3)) hx hb hi hts inX8_u hown hw (by decide) rfl 3 (by decide) q_171 rfl rfl dX8_root_17 ?_
    refine lv_if_eq (tgt := 25) hx hb dX8_root_20 (by decide) (fun hc => ?_) (fun hc => ?_)
    · replace h := ite_t hc h
      refine lv_aload_n hx hb dX8_root_25 rfl (lv_at hl 0 rfl) ?_
      refine lv_iload_n hx hb dX8_root_26 rfl (lv_at hl 1 rfl) ?_
      refine lv_iconst (v := (0 : Int32)) hx hb dX8_root_27 (by decide) ?_
      replace h := bnd h
      obtain ⟨v4, e4, h⟩ := h
      refine m_callVv (k := 36) (As := [.int a0, .int (0 : Int32)]) (rest := []) cx.fix hi hw (cc_X8_load (l := l) (G := G) (sz := H.size) hi e4) (by decide) rfl rfl (w_cV 2 hts q_172 q_173 q_174 q_175 q_176 rfl rfl (by decide) (by decide)) hl.1 rfl (lv_room (Nat.le_of_ble_eq_true rfl)) dX8_root_28 (fun H locs hw => ?_)
      refine lv_aload_n hx hb dX8_root_31 rfl (lv_at hl 0 rfl) ?_
      refine lv_iconst (v := (0 : Int32)) hx hb dX8_root_32 (by decide) ?_
      replace h := bnd h
      obtain ⟨v5, e5, h⟩ := h
      obtain rfl := pt_s e5
      refine m_putI (k := 36) (C := RX8) (T := TX8) (N := 18) (ref := "LiftFactorsModel") hx hb hi hts inX8_u tyX8 tyX8_ok nmX8 hown hw (by decide) rfl 15 (by decide) q_219 rfl rfl (by decide +kernel) rfl dX8_root_33 (fun H locs hw => ?_)
      obtain ⟨v5, e5⟩ : ∃ z9, z9 = sI v4 36 15 (0 : Int32) := ⟨_, rfl⟩
      rw [← e5] at h hw
      refine lv_aload_n hx hb dX8_root_36 rfl (lv_at hl 0 rfl) ?_
      refine m_get (k := 36) (C := RX8) (T := TX8) (N := 18) (ref := "LiftFactorsModel") (v := .ref (adr 42)) hx hb hi hts inX8_u hown hw (by decide) rfl 8 (by decide) q_1 rfl rfl dX8_root_37 ?_
      refine lv_iconst (v := (0 : Int32)) hx hb dX8_root_40 (by decide) ?_
      replace h := bnd h
      obtain ⟨v6, e6, h⟩ := h
      refine m_iald hx hb hi hw e6 dX8_root_41 ?_
      replace h := bnd h
      obtain ⟨M8, j16, h⟩ := h
      have kj : ∀ (ls : Array Slot) (H : Heap) (locs : List Loc), lv_has ls 4 [(0, .ref (adr 36)), (2, .int a1), (3, .int a2)] → wH G A s.heap s (LL adr) (wf G adr M8) H locs → W p l e { frames := 4, cells := 0, slots := 0, locals := 104 } s m args below meth c H locs 0 0 Q (F0 m 49 ls []) := by
        intro ls H locs hl hw
        refine lv_aload_n hx hb dX8_root_49 rfl (lv_at hl 0 rfl) ?_
        refine lv_iload_n hx hb dX8_root_50 rfl (lv_at hl 1 rfl) ?_
        replace h := bnd h
        obtain ⟨v9, j15, h⟩ := h
        have kj : ∀ (ls : Array Slot) (H : Heap) (locs : List Loc), lv_has ls 4 [(0, .ref (adr 36)), (2, .int a1), (3, .int a2)] → wH G A s.heap s (LL adr) (wf G adr M8) H locs → W p l e { frames := 4, cells := 0, slots := 0, locals := 104 } s m args below meth c H locs 0 0 Q (F0 m 76 ls [.int v9, .ref (adr 36)]) := by
          intro ls H locs hl hw
          replace h := bnd h
          obtain ⟨v10, e10, h⟩ := h
          obtain rfl := pt_s e10
          refine m_putI (k := 36) (C := RX8) (T := TX8) (N := 18) (ref := "LiftFactorsModel") hx hb hi hts inX8_u tyX8 tyX8_ok nmX8 hown hw (by decide) rfl 3 (by decide) q_171 rfl rfl (by decide +kernel) rfl dX8_root_76 (fun H locs hw => ?_)
          obtain ⟨v10, e10⟩ : ∃ z9, z9 = sI M8 36 3 v9 := ⟨_, rfl⟩
          rw [← e10] at h hw
          refine lv_aload_n hx hb dX8_root_79 rfl (lv_at hl 0 rfl) ?_
          refine m_get (k := 36) (C := RX8) (T := TX8) (N := 18) (ref := "LiftFactorsModel") (v := .int (v10.2 36 3)) hx hb hi hts inX8_u hown hw (by decide) rfl 3 (by decide) q_171 rfl rfl dX8_root_80 ?_
          refine lv_if_eq (tgt := 88) hx hb dX8_root_83 (by decide) (fun hc => ?_) (fun hc => ?_)
          · replace h := ite_t hc h
            refine lv_iload_n hx hb dX8_root_88 rfl (lv_at hl 2 rfl) ?_
            replace h := bnd h
            obtain ⟨v13, j14, h⟩ := h
            have kj : ∀ (ls : Array Slot) (H : Heap) (locs : List Loc), lv_has ls 4 [] → wH G A s.heap s (LL adr) (wf G adr v10) H locs → W p l e { frames := 4, cells := 0, slots := 0, locals := 104 } s m args below meth c H locs 0 0 Q (F0 m 107 ls [.int v13]) := by
              intro ls H locs hl hw
              cases h
              exact kr _ _ _ _ dX8_root_107 hw
            clear h
            replace h := j14
            clear j14
            refine lv_if_ne (tgt := 101) hx hb dX8_root_89 (by decide) (fun hc => ?_) (fun hc => ?_)
            · replace h := ite_f hc h
              refine lv_aload_n hx hb dX8_root_101 rfl (lv_at hl 0 rfl) ?_
              refine m_get (k := 36) (C := RX8) (T := TX8) (N := 18) (ref := "LiftFactorsModel") (v := .ref (adr 47)) hx hb hi hts inX8_u hown hw (by decide) rfl 17 (by decide) q_221 rfl rfl dX8_root_102 ?_
              refine lv_iload_n hx hb dX8_root_105 rfl (lv_at hl 1 rfl) ?_
              replace h := bnd h
              obtain ⟨v11, e11, h⟩ := h
              refine m_iald hx hb hi hw e11 dX8_root_106 ?_
              cases h
              exact kj _ _ _ (lv_sub hl [] rfl) hw
            · replace h := ite_t hc h
              refine lv_aload_n hx hb dX8_root_92 rfl (lv_at hl 0 rfl) ?_
              refine m_get (k := 36) (C := RX8) (T := TX8) (N := 18) (ref := "LiftFactorsModel") (v := .ref (adr 46)) hx hb hi hts inX8_u hown hw (by decide) rfl 16 (by decide) q_220 rfl rfl dX8_root_93 ?_
              refine lv_iload_n hx hb dX8_root_96 rfl (lv_at hl 1 rfl) ?_
              replace h := bnd h
              obtain ⟨v12, e12, h⟩ := h
              refine m_iald hx hb hi hw e12 dX8_root_97 ?_
              refine lv_goto (tgt := 107) hx hb dX8_root_98 (by decide) ?_
              cases h
              exact kj _ _ _ (lv_sub hl [] rfl) hw
          · replace h := ite_f hc h
            refine lv_iconst (v := (0 : Int32)) hx hb dX8_root_86 (by decide) ?_
            cases h
            exact kr _ _ _ _ dX8_root_87 hw
        clear h
        replace h := j15
        clear j15
        refine lv_if_lt (tgt := 71) hx hb dX8_root_51 (by decide) (fun hc => ?_) (fun hc => ?_)
        · replace h := ite_t hc h
          refine lv_iconst (v := (2 : Int32)) hx hb dX8_root_71 (by decide) ?_
          refine lv_goto (tgt := 76) hx hb dX8_root_72 (by decide) ?_
          cases h
          exact kj _ _ _ (lv_sub hl [0, 1, 2] rfl) hw
        · replace h := ite_f hc h
          refine lv_iload_n hx hb dX8_root_54 rfl (lv_at hl 1 rfl) ?_
          refine lv_aload_n hx hb dX8_root_55 rfl (lv_at hl 0 rfl) ?_
          refine m_get (k := 36) (C := RX8) (T := TX8) (N := 18) (ref := "LiftFactorsModel") (v := .int (M8.2 36 15)) hx hb hi hts inX8_u hown hw (by decide) rfl 15 (by decide) q_219 rfl rfl dX8_root_56 ?_
          refine lv_icmp_ge (tgt := 71) hx hb dX8_root_59 (by decide) (fun hc => ?_) (fun hc => ?_)
          · replace h := ite_t hc h
            refine lv_iconst (v := (2 : Int32)) hx hb dX8_root_71 (by decide) ?_
            refine lv_goto (tgt := 76) hx hb dX8_root_72 (by decide) ?_
            cases h
            exact kj _ _ _ (lv_sub hl [0, 1, 2] rfl) hw
          · replace h := ite_f hc h
            refine lv_iload_n hx hb dX8_root_62 rfl (lv_at hl 2 rfl) ?_
            refine lv_if_lt (tgt := 71) hx hb dX8_root_63 (by decide) (fun hc => ?_) (fun hc => ?_)
            · replace h := ite_t hc h
              refine lv_iconst (v := (2 : Int32)) hx hb dX8_root_71 (by decide) ?_
              refine lv_goto (tgt := 76) hx hb dX8_root_72 (by decide) ?_
              cases h
              exact kj _ _ _ (lv_sub hl [0, 1, 2] rfl) hw
            · replace h := ite_f hc h
              refine lv_iload_n hx hb dX8_root_66 rfl (lv_at hl 2 rfl) ?_
              refine lv_iconst (v := (1 : Int32)) hx hb dX8_root_67 (by decide) ?_
              refine lv_icmp_le (tgt := 75) hx hb dX8_root_68 (by decide) (fun hc => ?_) (fun hc => ?_)
              · replace h := ite_t hc h
                refine lv_iconst (v := (0 : Int32)) hx hb dX8_root_75 (by decide) ?_
                cases h
                exact kj _ _ _ (lv_sub hl [0, 1, 2] rfl) hw
              · replace h := ite_f hc h
                refine lv_iconst (v := (2 : Int32)) hx hb dX8_root_71 (by decide) ?_
                refine lv_goto (tgt := 76) hx hb dX8_root_72 (by decide) ?_
                cases h
                exact kj _ _ _ (lv_sub hl [0, 1, 2] rfl) hw
      clear h
      replace h := j16
      clear j16
      refine lv_if_lt (tgt := 49) hx hb dX8_root_42 (by decide) (fun hc => ?_) (fun hc => ?_)
      · replace h := ite_t hc h
        cases h
        exact kj _ _ _ (lv_sub hl [0, 2, 3] rfl) hw
      · replace h := ite_f hc h
        refine lv_aload_n hx hb dX8_root_45 rfl (lv_at hl 0 rfl) ?_
        replace h := bnd h
        obtain ⟨v7, e7, h⟩ := h
        refine m_callVv (k := 36) (As := []) (rest := []) cx.fix hi hw (cc_X8_findRoots (l := l) (G := G) (sz := H.size) hi e7) (by decide) rfl rfl (w_cV 0 hts q_227 q_228 q_229 q_230 q_231 rfl rfl (by decide) (by decide)) hl.1 rfl (lv_room (Nat.le_of_ble_eq_true rfl)) dX8_root_46 (fun H locs hw => ?_)
        cases h
        exact kj _ _ _ (lv_sub hl [0, 2, 3] rfl) hw
    · replace h := ite_f hc h
      refine lv_iconst (v := (0 : Int32)) hx hb dX8_root_23 (by decide) ?_
      cases h
      exact kr _ _ _ _ dX8_root_24 hw
  clear h
  replace h := j17
  clear j17
  refine lv_if_eq (tgt := 12) hx hb dX8_root_5 (by decide) (fun hc => ?_) (fun hc => ?_)
  · replace h := ite_t hc h
    refine lv_iconst (v := (1 : Int32)) hx hb dX8_root_12 (by decide) ?_
    cases h
    exact kj _ _ _ (lv_sub hl [0, 1, 2, 3] rfl) hw
  · replace h := ite_f hc h
    refine lv_iconst (v := (0 : Int32)) hx hb dX8_root_8 (by decide) ?_
    refine lv_goto (tgt := 13) hx hb dX8_root_9 (by decide) ?_
    cases h
    exact kj _ _ _ (lv_sub hl [0, 1, 2, 3] rfl) hw
theorem cc_X8_root {l : Launch} {G : gG} {adr : Nat → Nat} {sz : Nat} (hi : adi adr) {n : Nat} {a0 : Int32} {a1 : Int32} {a2 : Int32} {M M' : Mem} {r : Int32} (h : f_X8_root n a0 a1 a2 M = some (r, M')) : mI l yX8_root cX8_root 4 (some .int) { frames := 4, cells := 0, slots := 0, locals := 104 } G adr [.ref (adr 36), .int a0, .int a1, .int a2] M sz r M' := by
  refine wEnter (by decide) (Nat.le_of_ble_eq_true rfl) ?_
  intro p e s m below meth c ls cx hinit hl hsz hw
  exact b_X8_root cx hi h (fun pc ls H locs hd hw => w_iret (post := fun (r9 : Int32) (u : Mem) => r9 = r ∧ u = M') (lf := fun u => (LL adr, wf G adr u)) cx.1 cx.2.1 cx.2.2.1 cx.2.2.2.2.2.2 M' hw ⟨rfl, rfl⟩ hd) hl hw
def f_X8_roots (n : Nat) (a0 : Int32) (M : Mem) : Option (Int32 × Mem) :=
  Option.bind (f_X8_isPoly a0) fun v1 =>
  Option.bind (
    if v1 = 0 then
      some (1 : Int32)
    else
      some (0 : Int32)) fun v2 =>
  Option.bind (ptI M 36 3 v2) fun v3 =>
  if (v3.2 36 3) = 0 then
    Option.bind (f_X8_load n a0 (0 : Int32) v3) fun v4 =>
    Option.bind (ldI v4 42 (0 : Int32)) fun v5 =>
    if 0 ≤ v5 then
      Option.bind (f_X8_findRoots n v4) fun v6 =>
      some (v6.2 36 15, v6)
    else
      some ((-1 : Int32), v4)
  else
    some ((0 : Int32), v3)
set_option maxRecDepth 100000 in
set_option maxHeartbeats 8000000 in
theorem b_X8_roots {p : Program} {l : Launch} {e : Env} {s : State} {m : MethodId} {args : Array Value} {below : List Frame} {meth : Method} {c : Code} {Q : State → Prop} {G : gG} {A : Nat → Prop} {adr : Nat → Nat} (cx : cX p s m args meth c cX8_roots (some .int) 2 yX8_roots.cls) (hi : adi adr) {n : Nat} {a0 : Int32} {M M' : Mem} {r : Int32} 
    (h : f_X8_roots n a0 M = some (r, M'))
    (kr : ∀ (pc : Nat) (ls : Array Slot) (H : Heap) (locs : List Loc), decode cX8_roots pc = .ok (.ireturn, 1) → wH G A s.heap s (LL adr) (wf G adr M') H locs → W p l e { frames := 4, cells := 0, slots := 0, locals := 104 } s m args below meth c H locs 0 0 Q (F0 m pc ls [.int r]))
    {ls : Array Slot} {H : Heap} {locs : List Loc} (hl : lv_has ls 2 [(0, .ref (adr 36)), (1, .int a0)]) (hw : wH G A s.heap s (LL adr) (wf G adr M) H locs) : W p l e { frames := 4, cells := 0, slots := 0, locals := 104 } s m args below meth c H locs 0 0 Q (F0 m 0 ls []) := by
  obtain ⟨hx, hb, -, -, hown, hts, -⟩ := id cx
  have hown : s.vm.findClass RX8 = some m.cls := hown
  unfold f_X8_roots at h
  refine lv_aload_n hx hb dX8_roots_0 rfl (lv_at hl 0 rfl) ?_
  refine lv_iload_n hx hb dX8_roots_1 rfl (lv_at hl 1 rfl) ?_
  replace h := bnd h
  obtain ⟨v1, e1, h⟩ := h
  refine m_callSi (As := [.int a0]) (rest := [.ref (adr 36)]) cx.fix hw (cc_X8_isPoly (l := l) (G := G) (sz := H.size) (M := M) hi e1) (w_cS 1 hts q_167 q_168 q_169 q_170 rfl rfl (by decide) (by decide)) hl.1 rfl (lv_room (Nat.le_of_ble_eq_true rfl)) dX8_roots_2 (fun H locs hw => ?_)
  replace h := bnd h
  obtain ⟨v2, j7, h⟩ := h
  have kj : ∀ (ls : Array Slot) (H : Heap) (locs : List Loc), lv_has ls 2 [(0, .ref (adr 36)), (1, .int a0)] → wH G A s.heap s (LL adr) (wf G adr M) H locs → W p l e { frames := 4, cells := 0, slots := 0, locals := 104 } s m args below meth c H locs 0 0 Q (F0 m 13 ls [.int v2, .ref (adr 36)]) := by
    intro ls H locs hl hw
    replace h := bnd h
    obtain ⟨v3, e3, h⟩ := h
    obtain rfl := pt_s e3
    refine m_putI (k := 36) (C := RX8) (T := TX8) (N := 18) (ref := "LiftFactorsModel") hx hb hi hts inX8_u tyX8 tyX8_ok nmX8 hown hw (by decide) rfl 3 (by decide) q_171 rfl rfl (by decide +kernel) rfl dX8_roots_13 (fun H locs hw => ?_)
    obtain ⟨v3, e3⟩ : ∃ z9, z9 = sI M 36 3 v2 := ⟨_, rfl⟩
    rw [← e3] at h hw
    refine lv_aload_n hx hb dX8_roots_16 rfl (lv_at hl 0 rfl) ?_
    refine m_get (k := 36) (C := RX8) (T := TX8) (N := 18) (ref := "LiftFactorsModel") (v := .int (v3.2 36 3)) hx hb hi hts inX8_u hown hw (by decide) rfl 3 (by decide) q_171 rfl rfl dX8_roots_17 ?_
    refine lv_if_eq (tgt := 25) hx hb dX8_roots_20 (by decide) (fun hc => ?_) (fun hc => ?_)
    · replace h := ite_t hc h
      refine lv_aload_n hx hb dX8_roots_25 rfl (lv_at hl 0 rfl) ?_
      refine lv_iload_n hx hb dX8_roots_26 rfl (lv_at hl 1 rfl) ?_
      refine lv_iconst (v := (0 : Int32)) hx hb dX8_roots_27 (by decide) ?_
      replace h := bnd h
      obtain ⟨v4, e4, h⟩ := h
      refine m_callVv (k := 36) (As := [.int a0, .int (0 : Int32)]) (rest := []) cx.fix hi hw (cc_X8_load (l := l) (G := G) (sz := H.size) hi e4) (by decide) rfl rfl (w_cV 2 hts q_172 q_173 q_174 q_175 q_176 rfl rfl (by decide) (by decide)) hl.1 rfl (lv_room (Nat.le_of_ble_eq_true rfl)) dX8_roots_28 (fun H locs hw => ?_)
      refine lv_aload_n hx hb dX8_roots_31 rfl (lv_at hl 0 rfl) ?_
      refine m_get (k := 36) (C := RX8) (T := TX8) (N := 18) (ref := "LiftFactorsModel") (v := .ref (adr 42)) hx hb hi hts inX8_u hown hw (by decide) rfl 8 (by decide) q_1 rfl rfl dX8_roots_32 ?_
      refine lv_iconst (v := (0 : Int32)) hx hb dX8_roots_35 (by decide) ?_
      replace h := bnd h
      obtain ⟨v5, e5, h⟩ := h
      refine m_iald hx hb hi hw e5 dX8_roots_36 ?_
      refine lv_if_ge (tgt := 42) hx hb dX8_roots_37 (by decide) (fun hc => ?_) (fun hc => ?_)
      · replace h := ite_t hc h
        refine lv_aload_n hx hb dX8_roots_42 rfl (lv_at hl 0 rfl) ?_
        replace h := bnd h
        obtain ⟨v6, e6, h⟩ := h
        refine m_callVv (k := 36) (As := []) (rest := []) cx.fix hi hw (cc_X8_findRoots (l := l) (G := G) (sz := H.size) hi e6) (by decide) rfl rfl (w_cV 0 hts q_227 q_228 q_229 q_230 q_231 rfl rfl (by decide) (by decide)) hl.1 rfl (lv_room (Nat.le_of_ble_eq_true rfl)) dX8_roots_43 (fun H locs hw => ?_)
        refine lv_aload_n hx hb dX8_roots_46 rfl (lv_at hl 0 rfl) ?_
        refine m_get (k := 36) (C := RX8) (T := TX8) (N := 18) (ref := "LiftFactorsModel") (v := .int (v6.2 36 15)) hx hb hi hts inX8_u hown hw (by decide) rfl 15 (by decide) q_219 rfl rfl dX8_roots_47 ?_
        cases h
        exact kr _ _ _ _ dX8_roots_50 hw
      · replace h := ite_f hc h
        refine lv_iconst (v := (-1 : Int32)) hx hb dX8_roots_40 (by decide) ?_
        cases h
        exact kr _ _ _ _ dX8_roots_41 hw
    · replace h := ite_f hc h
      refine lv_iconst (v := (0 : Int32)) hx hb dX8_roots_23 (by decide) ?_
      cases h
      exact kr _ _ _ _ dX8_roots_24 hw
  clear h
  replace h := j7
  clear j7
  refine lv_if_eq (tgt := 12) hx hb dX8_roots_5 (by decide) (fun hc => ?_) (fun hc => ?_)
  · replace h := ite_t hc h
    refine lv_iconst (v := (1 : Int32)) hx hb dX8_roots_12 (by decide) ?_
    cases h
    exact kj _ _ _ (lv_sub hl [0, 1] rfl) hw
  · replace h := ite_f hc h
    refine lv_iconst (v := (0 : Int32)) hx hb dX8_roots_8 (by decide) ?_
    refine lv_goto (tgt := 13) hx hb dX8_roots_9 (by decide) ?_
    cases h
    exact kj _ _ _ (lv_sub hl [0, 1] rfl) hw
theorem cc_X8_roots {l : Launch} {G : gG} {adr : Nat → Nat} {sz : Nat} (hi : adi adr) {n : Nat} {a0 : Int32} {M M' : Mem} {r : Int32} (h : f_X8_roots n a0 M = some (r, M')) : mI l yX8_roots cX8_roots 2 (some .int) { frames := 4, cells := 0, slots := 0, locals := 104 } G adr [.ref (adr 36), .int a0] M sz r M' := by
  refine wEnter (by decide) (Nat.le_of_ble_eq_true rfl) ?_
  intro p e s m below meth c ls cx hinit hl hsz hw
  exact b_X8_roots cx hi h (fun pc ls H locs hd hw => w_iret (post := fun (r9 : Int32) (u : Mem) => r9 = r ∧ u = M') (lf := fun u => (LL adr, wf G adr u)) cx.1 cx.2.1 cx.2.2.1 cx.2.2.2.2.2.2 M' hw ⟨rfl, rfl⟩ hd) hl hw
def l_X8_isPrime_15 (a0 : Int32) : Int32 → Option (((Int32) ⊕ (Unit)) ⊕ (Int32)) := fun v1 =>
  if a0 < (v1 * v1) then
    some (.inl (.inr ()))
  else
    Option.bind (rmI a0 v1) fun v2 =>
    if v2 = 0 then
      some (.inl (.inl (0 : Int32)))
    else
      some (.inr (v1 + 1))
def f_X8_isPrime (n : Nat) (a0 : Int32) : Option Int32 :=
  if a0 < (2 : Int32) then
    some (0 : Int32)
  else
    if a0 ≤ (97 : Int32) then
      Option.bind (lpF (l_X8_isPrime_15 a0) n (2 : Int32)) fun r => match r with
      | .inl o => some o
      | .inr () =>
        some (1 : Int32)
    else
      some (0 : Int32)
set_option maxRecDepth 100000 in
set_option maxHeartbeats 8000000 in
theorem b_X8_isPrime {p : Program} {l : Launch} {e : Env} {s : State} {m : MethodId} {args : Array Value} {below : List Frame} {meth : Method} {c : Code} {Q : State → Prop} {G : gG} {A : Nat → Prop} {adr : Nat → Nat} (cx : cX p s m args meth c cX8_isPrime (some .boolean) 2 yX8_isPrime.cls) (hi : adi adr) {n : Nat} {a0 : Int32} {M : Mem} {r : Int32} 
    (h : f_X8_isPrime n a0 = some r)
    (kr : ∀ (pc : Nat) (ls : Array Slot) (H : Heap) (locs : List Loc), decode cX8_isPrime pc = .ok (.ireturn, 1) → narrow .boolean (.int r) = .int r → wH G A s.heap s (LL adr) (wf G adr M) H locs → W p l e { frames := 0, cells := 0, slots := 0, locals := 0 } s m args below meth c H locs 0 0 Q (F0 m pc ls [.int r]))
    {ls : Array Slot} {H : Heap} {locs : List Loc} (hl : lv_has ls 2 [(0, .int a0)]) (hw : wH G A s.heap s (LL adr) (wf G adr M) H locs) : W p l e { frames := 0, cells := 0, slots := 0, locals := 0 } s m args below meth c H locs 0 0 Q (F0 m 0 ls []) := by
  obtain ⟨hx, hb, -, -, hown, hts, -⟩ := id cx
  have hown : s.vm.findClass RX8 = some m.cls := hown
  unfold f_X8_isPrime at h
  refine lv_iload_n hx hb dX8_isPrime_0 rfl (lv_at hl 0 rfl) ?_
  refine lv_iconst (v := (2 : Int32)) hx hb dX8_isPrime_1 (by decide) ?_
  refine lv_icmp_lt (tgt := 11) hx hb dX8_isPrime_2 (by decide) (fun hc => ?_) (fun hc => ?_)
  · replace h := ite_t hc h
    refine lv_iconst (v := (0 : Int32)) hx hb dX8_isPrime_11 (by decide) ?_
    cases h
    exact kr _ _ _ _ dX8_isPrime_12 (by decide) hw
  · replace h := ite_f hc h
    refine lv_iload_n hx hb dX8_isPrime_5 rfl (lv_at hl 0 rfl) ?_
    refine lv_bipush (v := (97 : Int32)) hx hb dX8_isPrime_6 (by decide) ?_
    refine lv_icmp_le (tgt := 13) hx hb dX8_isPrime_8 (by decide) (fun hc => ?_) (fun hc => ?_)
    · replace h := ite_t hc h
      refine lv_iconst (v := (2 : Int32)) hx hb dX8_isPrime_13 (by decide) ?_
      refine lv_istore_n (lv' := [(1, .int (2 : Int32)), (0, .int a0)]) hx hb dX8_isPrime_14 rfl hl (by decide) rfl (fun ls hl => ?_)
      replace h := bnd h
      obtain ⟨o4, j3, h⟩ := h
      refine lp_W (Wst := fun (st : Int32) => ∀ (ls : Array Slot) (H : Heap) (locs : List Loc), lv_has ls 2 [(0, .int a0), (1, .int st)] → wH G A s.heap s (LL adr) (wf G adr M) H locs → W p l e { frames := 0, cells := 0, slots := 0, locals := 0 } s m args below meth c H locs 0 0 Q (F0 m 15 ls [])) (fin := fun (r : (Int32) ⊕ (Unit)) => match r with
      | .inl o => ∀ (pc : Nat) (ls : Array Slot) (H : Heap) (locs : List Loc), decode cX8_isPrime pc = .ok (.ireturn, 1) → narrow .boolean (.int o) = .int o → wH G A s.heap s (LL adr) (wf G adr M) H locs → W p l e { frames := 0, cells := 0, slots := 0, locals := 0 } s m args below meth c H locs 0 0 Q (F0 m pc ls [.int o])
      | .inr q => ∀ (ls : Array Slot) (H : Heap) (locs : List Loc), lv_has ls 2 [] → wH G A s.heap s (LL adr) (wf G adr M) H locs → W p l e { frames := 0, cells := 0, slots := 0, locals := 0 } s m args below meth c H locs 0 0 Q (F0 m 36 ls [])) ?_ n _ _ j3 ?_ _ _ _ (lv_sub hl [1, 0] rfl) hw
      · clear h j3 hw hl
        intro v1 x h k1 k2 ls H locs hl hw
        (try dsimp only at k2 hl hw ⊢)
        unfold l_X8_isPrime_15 at h
        (try dsimp only at h)
        refine lv_iload_n hx hb dX8_isPrime_15 rfl (lv_at hl 1 rfl) ?_
        refine lv_iload_n hx hb dX8_isPrime_16 rfl (lv_at hl 1 rfl) ?_
        refine lv_imul hx hb dX8_isPrime_17 ?_
        refine lv_iload_n hx hb dX8_isPrime_18 rfl (lv_at hl 0 rfl) ?_
        refine lv_icmp_gt (tgt := 36) hx hb dX8_isPrime_19 (by decide) (fun hc => ?_) (fun hc => ?_)
        · replace h := ite_t hc h
          cases h
          exact k1 _ rfl _ _ _ (lv_sub hl [] rfl) hw
        · replace h := ite_f hc h
          refine lv_iload_n hx hb dX8_isPrime_22 rfl (lv_at hl 0 rfl) ?_
          refine lv_iload_n hx hb dX8_isPrime_23 rfl (lv_at hl 1 rfl) ?_
          replace h := bnd h
          obtain ⟨v2, e2, h⟩ := h
          obtain ⟨ne2, rfl⟩ := rmI_ok e2
          refine lv_irem hx hb dX8_isPrime_24 ne2 ?_
          obtain ⟨v2, e2⟩ : ∃ z9, z9 = a0 - a0 / v1 * v1 := ⟨_, rfl⟩
          rw [← e2] at h ⊢
          refine lv_if_ne (tgt := 30) hx hb dX8_isPrime_25 (by decide) (fun hc => ?_) (fun hc => ?_)
          · replace h := ite_f hc h
            refine lv_iinc (v := v1 + 1) (lv' := [(1, .int (v1 + 1)), (0, .int a0)]) hx hb dX8_isPrime_30 hl (k := 1) rfl (inc_p _ (by decide)) (by decide) rfl (fun ls hl => ?_)
            refine lv_goto (tgt := 15) hx hb dX8_isPrime_33 (by decide) ?_
            cases h
            exact k2 _ rfl _ _ _ (lv_sub hl [1, 0] rfl) hw
          · replace h := ite_t hc h
            refine lv_iconst (v := (0 : Int32)) hx hb dX8_isPrime_28 (by decide) ?_
            cases h
            exact k1 _ rfl _ _ _ _ dX8_isPrime_29 (by decide) hw
      · clear hw hl j3
        rcases o4 with o9 | _
        · cases h
          exact kr
        · intro ls H locs hl hw
          (try dsimp only at h hl hw ⊢)
          refine lv_iconst (v := (1 : Int32)) hx hb dX8_isPrime_36 (by decide) ?_
          cases h
          exact kr _ _ _ _ dX8_isPrime_37 (by decide) hw
    · replace h := ite_f hc h
      refine lv_iconst (v := (0 : Int32)) hx hb dX8_isPrime_11 (by decide) ?_
      cases h
      exact kr _ _ _ _ dX8_isPrime_12 (by decide) hw
theorem cc_X8_isPrime {l : Launch} {G : gG} {adr : Nat → Nat} {sz : Nat} (hi : adi adr) {n : Nat} {a0 : Int32} {M : Mem} {r : Int32} (h : f_X8_isPrime n a0 = some r) : mI l yX8_isPrime cX8_isPrime 2 (some .boolean) { frames := 0, cells := 0, slots := 0, locals := 0 } G adr [.int a0] M sz r M := by
  refine wEnter (by decide) (Nat.le_of_ble_eq_true rfl) ?_
  intro p e s m below meth c ls cx hinit hl hsz hw
  exact b_X8_isPrime cx hi h (fun pc ls H locs hd hz hw => w_zret (post := fun (r9 : Int32) (u : Mem) => r9 = r ∧ u = M) (lf := fun u => (LL adr, wf G adr u)) cx.1 cx.2.1 cx.2.2.1 cx.2.2.2.2.2.2 hz M hw ⟨rfl, rfl⟩ hd) hl hw
theorem q_232 : Cond.methodLink RX8 223 yX8_isPrime ∈ uU := uU_in (by decide +kernel) (by decide +kernel)
theorem q_233 : Cond.static yX8_isPrime ∈ uU := uU_in (by decide +kernel) (by decide +kernel)
theorem q_234 : Cond.initialized yX8_isPrime.cls ∈ uU := uU_in (by decide +kernel) (by decide +kernel)
theorem q_235 : Cond.code yX8_isPrime cX8_isPrime 2 (some .boolean) ∈ uU := uU_in (by decide +kernel) (by decide +kernel)
theorem q_236 : Cond.fieldLink RX8 36 "LiftFactorsModel" "perDegree" "[I" ∈ uU := uU_in (by decide +kernel) (by decide +kernel)
def l_X8_parts_174 (v15 : Int32) (v21 : Mem) : Int32 × Int32 → Option ((Int32) ⊕ (Int32 × Int32)) := fun (v23, v24) =>
  if v15 ≤ v24 then
    some (.inl v23)
  else
    Option.bind (rmI v15 v24) fun v25 =>
    Option.bind (
      if v25 = 0 then
        Option.bind (ldI v21 45 v24) fun v26 =>
        some (v23 - (v24 * v26))
      else
        some v23) fun v27 =>
    some (.inr (v27, v24 + 1))
def l_X8_parts_106 (n : Nat) (a1 : Int32) (v6 : Int32) : Mem × Int32 × Int32 → Option ((Mem × Int32) ⊕ (Mem × Int32 × Int32)) := fun (M13, v14, v15) =>
  if v6 < v15 then
    some (.inl (M13, v14))
  else
    Option.bind (f_X8_copy n (10 : Int32) (16 : Int32) M13) fun v16 =>
    Option.bind (f_X8_raise n (16 : Int32) a1.toInt64 (0 : Int32) (10 : Int32) v16) fun v17 =>
    Option.bind (f_X8_copy n (10 : Int32) (11 : Int32) v17) fun v18 =>
    Option.bind (f_X8_lessLetter n (11 : Int32) v18) fun v19 =>
    Option.bind (f_X8_copy n (0 : Int32) (17 : Int32) v19) fun v20 =>
    Option.bind (f_X8_commonRow n (17 : Int32) (11 : Int32) (18 : Int32) v20) fun v21 =>
    Option.bind (ldI v21 42 (18 : Int32)) fun v22 =>
    Option.bind (lpF (l_X8_parts_174 v15 v21) n (v22, (1 : Int32))) fun v30 =>
    Option.bind (dvI v30 v15) fun v31 =>
    Option.bind (stI v21 45 v15 v31) fun v32 =>
    Option.bind (dvI v30 v15) fun v33 =>
    some (.inr (v32, v14 + v33, v15 + 1))
def f_X8_parts (n : Nat) (a0 : Int32) (a1 : Int32) (M : Mem) : Option (Int32 × Mem) :=
  Option.bind (f_X8_isPoly a0) fun v1 =>
  Option.bind (
    if v1 = 0 then
      some (1 : Int32)
    else
      Option.bind (f_X8_isPrime n a1) fun v2 =>
      if v2 = 0 then
        some (2 : Int32)
      else
        some (0 : Int32)) fun v3 =>
  Option.bind (ptI M 36 3 v3) fun v4 =>
  if (v4.2 36 3) = 0 then
    Option.bind (f_X8_load n a0 (0 : Int32) v4) fun v5 =>
    Option.bind (ldI v5 42 (0 : Int32)) fun v6 =>
    Option.bind (ptJ v5 36 9 a1.toInt64) fun v7 =>
    Option.bind (f_X8_reduce n (0 : Int32) v7) fun v8 =>
    if v6 < 0 then
      some ((-1 : Int32), v8)
    else
      Option.bind (ldI v8 42 (0 : Int32)) fun v9 =>
      if v6 ≤ v9 then
        if v6 = 0 then
          some ((0 : Int32), v8)
        else
          Option.bind (f_X8_monic n (0 : Int32) v8) fun v10 =>
          Option.bind (f_X8_letter (10 : Int32) v10) fun v11 =>
          Option.bind (f_X8_rest n (10 : Int32) (0 : Int32) v11) fun v12 =>
          Option.bind (lpF (l_X8_parts_106 n a1 v6) n (v12, (0 : Int32), (1 : Int32))) fun (M35, v36) =>
          some (v36, M35)
      else
        some ((-1 : Int32), v8)
  else
    some ((0 : Int32), v4)
set_option maxRecDepth 100000 in
set_option maxHeartbeats 8000000 in
theorem b_X8_parts {p : Program} {l : Launch} {e : Env} {s : State} {m : MethodId} {args : Array Value} {below : List Frame} {meth : Method} {c : Code} {Q : State → Prop} {G : gG} {A : Nat → Prop} {adr : Nat → Nat} (cx : cX p s m args meth c cX8_parts (some .int) 8 yX8_parts.cls) (hi : adi adr) {n : Nat} {a0 : Int32} {a1 : Int32} {M M' : Mem} {r : Int32} 
    (h : f_X8_parts n a0 a1 M = some (r, M'))
    (kr : ∀ (pc : Nat) (ls : Array Slot) (H : Heap) (locs : List Loc), decode cX8_parts pc = .ok (.ireturn, 1) → wH G A s.heap s (LL adr) (wf G adr M') H locs → W p l e { frames := 4, cells := 0, slots := 0, locals := 111 } s m args below meth c H locs 0 0 Q (F0 m pc ls [.int r]))
    {ls : Array Slot} {H : Heap} {locs : List Loc} (hl : lv_has ls 8 [(0, .ref (adr 36)), (1, .int a0), (2, .int a1)]) (hw : wH G A s.heap s (LL adr) (wf G adr M) H locs) : W p l e { frames := 4, cells := 0, slots := 0, locals := 111 } s m args below meth c H locs 0 0 Q (F0 m 0 ls []) := by
  obtain ⟨hx, hb, -, -, hown, hts, -⟩ := id cx
  have hown : s.vm.findClass RX8 = some m.cls := hown
  unfold f_X8_parts at h
  refine lv_aload_n hx hb dX8_parts_0 rfl (lv_at hl 0 rfl) ?_
  refine lv_iload_n hx hb dX8_parts_1 rfl (lv_at hl 1 rfl) ?_
  replace h := bnd h
  obtain ⟨v1, e1, h⟩ := h
  refine m_callSi (As := [.int a0]) (rest := [.ref (adr 36)]) cx.fix hw (cc_X8_isPoly (l := l) (G := G) (sz := H.size) (M := M) hi e1) (w_cS 1 hts q_167 q_168 q_169 q_170 rfl rfl (by decide) (by decide)) hl.1 rfl (lv_room (Nat.le_of_ble_eq_true rfl)) dX8_parts_2 (fun H locs hw => ?_)
  replace h := bnd h
  obtain ⟨v3, j37, h⟩ := h
  have kj : ∀ (ls : Array Slot) (H : Heap) (locs : List Loc), lv_has ls 8 [(0, .ref (adr 36)), (1, .int a0), (2, .int a1)] → wH G A s.heap s (LL adr) (wf G adr M) H locs → W p l e { frames := 4, cells := 0, slots := 0, locals := 111 } s m args below meth c H locs 0 0 Q (F0 m 24 ls [.int v3, .ref (adr 36)]) := by
    intro ls H locs hl hw
    replace h := bnd h
    obtain ⟨v4, e4, h⟩ := h
    obtain rfl := pt_s e4
    refine m_putI (k := 36) (C := RX8) (T := TX8) (N := 18) (ref := "LiftFactorsModel") hx hb hi hts inX8_u tyX8 tyX8_ok nmX8 hown hw (by decide) rfl 3 (by decide) q_171 rfl rfl (by decide +kernel) rfl dX8_parts_24 (fun H locs hw => ?_)
    obtain ⟨v4, e4⟩ : ∃ z9, z9 = sI M 36 3 v3 := ⟨_, rfl⟩
    rw [← e4] at h hw
    refine lv_aload_n hx hb dX8_parts_27 rfl (lv_at hl 0 rfl) ?_
    refine m_get (k := 36) (C := RX8) (T := TX8) (N := 18) (ref := "LiftFactorsModel") (v := .int (v4.2 36 3)) hx hb hi hts inX8_u hown hw (by decide) rfl 3 (by decide) q_171 rfl rfl dX8_parts_28 ?_
    refine lv_if_eq (tgt := 36) hx hb dX8_parts_31 (by decide) (fun hc => ?_) (fun hc => ?_)
    · replace h := ite_t hc h
      refine lv_aload_n hx hb dX8_parts_36 rfl (lv_at hl 0 rfl) ?_
      refine lv_iload_n hx hb dX8_parts_37 rfl (lv_at hl 1 rfl) ?_
      refine lv_iconst (v := (0 : Int32)) hx hb dX8_parts_38 (by decide) ?_
      replace h := bnd h
      obtain ⟨v5, e5, h⟩ := h
      refine m_callVv (k := 36) (As := [.int a0, .int (0 : Int32)]) (rest := []) cx.fix hi hw (cc_X8_load (l := l) (G := G) (sz := H.size) hi e5) (by decide) rfl rfl (w_cV 2 hts q_172 q_173 q_174 q_175 q_176 rfl rfl (by decide) (by decide)) hl.1 rfl (lv_room (Nat.le_of_ble_eq_true rfl)) dX8_parts_39 (fun H locs hw => ?_)
      refine lv_aload_n hx hb dX8_parts_42 rfl (lv_at hl 0 rfl) ?_
      refine m_get (k := 36) (C := RX8) (T := TX8) (N := 18) (ref := "LiftFactorsModel") (v := .ref (adr 42)) hx hb hi hts inX8_u hown hw (by decide) rfl 8 (by decide) q_1 rfl rfl dX8_parts_43 ?_
      refine lv_iconst (v := (0 : Int32)) hx hb dX8_parts_46 (by decide) ?_
      replace h := bnd h
      obtain ⟨v6, e6, h⟩ := h
      refine m_iald hx hb hi hw e6 dX8_parts_47 ?_
      refine lv_istore_n (lv' := [(3, .int v6), (0, .ref (adr 36)), (1, .int a0), (2, .int a1)]) hx hb dX8_parts_48 rfl hl (by decide) rfl (fun ls hl => ?_)
      refine lv_aload_n hx hb dX8_parts_49 rfl (lv_at hl 1 rfl) ?_
      refine lv_iload_n hx hb dX8_parts_50 rfl (lv_at hl 3 rfl) ?_
      refine lv_i2l (v := a1.toInt64) hx hb dX8_parts_51 rfl ?_
      replace h := bnd h
      obtain ⟨v7, e7, h⟩ := h
      obtain rfl := pt_s e7
      refine m_putJ (k := 36) (C := RX8) (T := TX8) (N := 18) (ref := "LiftFactorsModel") hx hb hi hts inX8_u tyX8 tyX8_ok nmX8 hown hw (by decide) rfl 9 (by decide) q_29 rfl rfl (by decide +kernel) rfl dX8_parts_52 (fun H locs hw => ?_)
      obtain ⟨v7, e7⟩ : ∃ z9, z9 = sJ v5 36 9 a1.toInt64 := ⟨_, rfl⟩
      rw [← e7] at h hw
      refine lv_aload_n hx hb dX8_parts_55 rfl (lv_at hl 1 rfl) ?_
      refine lv_iconst (v := (0 : Int32)) hx hb dX8_parts_56 (by decide) ?_
      replace h := bnd h
      obtain ⟨v8, e8, h⟩ := h
      refine m_callVv (k := 36) (As := [.int (0 : Int32)]) (rest := []) cx.fix hi hw (cc_X8_reduce (l := l) (G := G) (sz := H.size) hi e8) (by decide) rfl rfl (w_cV 1 hts q_74 q_75 q_76 q_77 q_78 rfl rfl (by decide) (by decide)) hl.1 rfl (lv_room (Nat.le_of_ble_eq_true rfl)) dX8_parts_57 (fun H locs hw => ?_)
      refine lv_iload_n hx hb dX8_parts_60 rfl (lv_at hl 0 rfl) ?_
      refine lv_if_lt (tgt := 74) hx hb dX8_parts_61 (by decide) (fun hc => ?_) (fun hc => ?_)
      · replace h := ite_t hc h
        refine lv_iconst (v := (-1 : Int32)) hx hb dX8_parts_74 (by decide) ?_
        cases h
        exact kr _ _ _ _ dX8_parts_75 hw
      · replace h := ite_f hc h
        refine lv_aload_n hx hb dX8_parts_64 rfl (lv_at hl 1 rfl) ?_
        refine m_get (k := 36) (C := RX8) (T := TX8) (N := 18) (ref := "LiftFactorsModel") (v := .ref (adr 42)) hx hb hi hts inX8_u hown hw (by decide) rfl 8 (by decide) q_1 rfl rfl dX8_parts_65 ?_
        refine lv_iconst (v := (0 : Int32)) hx hb dX8_parts_68 (by decide) ?_
        replace h := bnd h
        obtain ⟨v9, e9, h⟩ := h
        refine m_iald hx hb hi hw e9 dX8_parts_69 ?_
        refine lv_iload_n hx hb dX8_parts_70 rfl (lv_at hl 0 rfl) ?_
        refine lv_icmp_ge (tgt := 76) hx hb dX8_parts_71 (by decide) (fun hc => ?_) (fun hc => ?_)
        · replace h := ite_t hc h
          refine lv_iload_n hx hb dX8_parts_76 rfl (lv_at hl 0 rfl) ?_
          refine lv_if_ne (tgt := 82) hx hb dX8_parts_77 (by decide) (fun hc => ?_) (fun hc => ?_)
          · replace h := ite_f hc h
            refine lv_aload_n hx hb dX8_parts_82 rfl (lv_at hl 1 rfl) ?_
            refine lv_iconst (v := (0 : Int32)) hx hb dX8_parts_83 (by decide) ?_
            replace h := bnd h
            obtain ⟨v10, e10, h⟩ := h
            refine m_callVv (k := 36) (As := [.int (0 : Int32)]) (rest := []) cx.fix hi hw (cc_X8_monic (l := l) (G := G) (sz := H.size) hi e10) (by decide) rfl rfl (w_cV 1 hts q_57 q_58 q_59 q_60 q_61 rfl rfl (by decide) (by decide)) hl.1 rfl (lv_room (Nat.le_of_ble_eq_true rfl)) dX8_parts_84 (fun H locs hw => ?_)
            refine lv_aload_n hx hb dX8_parts_87 rfl (lv_at hl 1 rfl) ?_
            refine lv_bipush (v := (10 : Int32)) hx hb dX8_parts_88 (by decide) ?_
            replace h := bnd h
            obtain ⟨v11, e11, h⟩ := h
            refine m_callVv (k := 36) (As := [.int (10 : Int32)]) (rest := []) cx.fix hi hw (cc_X8_letter (l := l) (G := G) (sz := H.size) hi e11) (by decide) rfl rfl (w_cV 1 hts q_96 q_97 q_98 q_99 q_100 rfl rfl (by decide) (by decide)) hl.1 rfl (lv_room (Nat.le_of_ble_eq_true rfl)) dX8_parts_90 (fun H locs hw => ?_)
            refine lv_aload_n hx hb dX8_parts_93 rfl (lv_at hl 1 rfl) ?_
            refine lv_bipush (v := (10 : Int32)) hx hb dX8_parts_94 (by decide) ?_
            refine lv_iconst (v := (0 : Int32)) hx hb dX8_parts_96 (by decide) ?_
            replace h := bnd h
            obtain ⟨v12, e12, h⟩ := h
            refine m_callVv (k := 36) (As := [.int (10 : Int32), .int (0 : Int32)]) (rest := []) cx.fix hi hw (cc_X8_rest (l := l) (G := G) (sz := H.size) hi e12) (by decide) rfl rfl (w_cV 2 hts q_42 q_43 q_44 q_45 q_46 rfl rfl (by decide) (by decide)) hl.1 rfl (lv_room (Nat.le_of_ble_eq_true rfl)) dX8_parts_97 (fun H locs hw => ?_)
            refine lv_iconst (v := (0 : Int32)) hx hb dX8_parts_100 (by decide) ?_
            refine lv_istore (lv' := [(4, .int (0 : Int32)), (3, .int v6), (0, .ref (adr 36)), (1, .int a0), (2, .int a1)]) hx hb dX8_parts_101 hl (by decide) rfl (fun ls hl => ?_)
            refine lv_iconst (v := (1 : Int32)) hx hb dX8_parts_103 (by decide) ?_
            refine lv_istore (lv' := [(5, .int (1 : Int32)), (4, .int (0 : Int32)), (3, .int v6), (0, .ref (adr 36)), (1, .int a0), (2, .int a1)]) hx hb dX8_parts_104 hl (by decide) rfl (fun ls hl => ?_)
            replace h := bnd h
            obtain ⟨⟨M35, v36⟩, j34, h⟩ := h
            refine lp_W (Wst := fun (st : Mem × Int32 × Int32) => ∀ (ls : Array Slot) (H : Heap) (locs : List Loc), lv_has ls 8 [(0, .ref (adr 36)), (2, .int a1), (3, .int v6), (4, .int st.2.1), (5, .int st.2.2)] → wH G A s.heap s (LL adr) (wf G adr st.1) H locs → W p l e { frames := 4, cells := 0, slots := 0, locals := 111 } s m args below meth c H locs 0 0 Q (F0 m 106 ls [])) (fin := fun (r : Mem × Int32) => ∀ (ls : Array Slot) (H : Heap) (locs : List Loc), lv_has ls 8 [(4, .int r.2)] → wH G A s.heap s (LL adr) (wf G adr r.1) H locs → W p l e { frames := 4, cells := 0, slots := 0, locals := 111 } s m args below meth c H locs 0 0 Q (F0 m 238 ls [])) ?_ n _ _ j34 ?_ _ _ _ (lv_sub hl [3, 5, 2, 1, 0] rfl) hw
            · clear h j34 hw hl
              intro ⟨M13, v14, v15⟩ x h k1 k2 ls H locs hl hw
              (try dsimp only at k1 k2 hl hw ⊢)
              unfold l_X8_parts_106 at h
              (try dsimp only at h)
              refine lv_iload hx hb dX8_parts_106 (lv_at hl 4 rfl) ?_
              refine lv_iload_n hx hb dX8_parts_108 rfl (lv_at hl 2 rfl) ?_
              refine lv_icmp_gt (tgt := 238) hx hb dX8_parts_109 (by decide) (fun hc => ?_) (fun hc => ?_)
              · replace h := ite_t hc h
                cases h
                exact k1 _ rfl _ _ _ (lv_sub hl [3] rfl) hw
              · replace h := ite_f hc h
                refine lv_aload_n hx hb dX8_parts_112 rfl (lv_at hl 0 rfl) ?_
                refine lv_bipush (v := (10 : Int32)) hx hb dX8_parts_113 (by decide) ?_
                refine lv_bipush (v := (16 : Int32)) hx hb dX8_parts_115 (by decide) ?_
                replace h := bnd h
                obtain ⟨v16, e16, h⟩ := h
                refine m_callVv (k := 36) (As := [.int (10 : Int32), .int (16 : Int32)]) (rest := []) cx.fix hi hw (cc_X8_copy (l := l) (G := G) (sz := H.size) hi e16) (by decide) rfl rfl (w_cV 2 hts q_24 q_25 q_26 q_27 q_28 rfl rfl (by decide) (by decide)) hl.1 rfl (lv_room (Nat.le_of_ble_eq_true rfl)) dX8_parts_117 (fun H locs hw => ?_)
                refine lv_aload_n hx hb dX8_parts_120 rfl (lv_at hl 0 rfl) ?_
                refine lv_bipush (v := (16 : Int32)) hx hb dX8_parts_121 (by decide) ?_
                refine lv_iload_n hx hb dX8_parts_123 rfl (lv_at hl 1 rfl) ?_
                refine lv_i2l (v := a1.toInt64) hx hb dX8_parts_124 rfl ?_
                refine lv_iconst (v := (0 : Int32)) hx hb dX8_parts_125 (by decide) ?_
                refine lv_bipush (v := (10 : Int32)) hx hb dX8_parts_126 (by decide) ?_
                replace h := bnd h
                obtain ⟨v17, e17, h⟩ := h
                refine m_callVv (k := 36) (As := [.int (16 : Int32), .long a1.toInt64, .int (0 : Int32), .int (10 : Int32)]) (rest := []) cx.fix hi hw (cc_X8_raise (l := l) (G := G) (sz := H.size) hi e17) (by decide) rfl rfl (w_cV 4 hts q_106 q_107 q_108 q_109 q_110 rfl rfl (by decide) (by decide)) hl.1 rfl (lv_room (Nat.le_of_ble_eq_true rfl)) dX8_parts_128 (fun H locs hw => ?_)
                refine lv_aload_n hx hb dX8_parts_131 rfl (lv_at hl 0 rfl) ?_
                refine lv_bipush (v := (10 : Int32)) hx hb dX8_parts_132 (by decide) ?_
                refine lv_bipush (v := (11 : Int32)) hx hb dX8_parts_134 (by decide) ?_
                replace h := bnd h
                obtain ⟨v18, e18, h⟩ := h
                refine m_callVv (k := 36) (As := [.int (10 : Int32), .int (11 : Int32)]) (rest := []) cx.fix hi hw (cc_X8_copy (l := l) (G := G) (sz := H.size) hi e18) (by decide) rfl rfl (w_cV 2 hts q_24 q_25 q_26 q_27 q_28 rfl rfl (by decide) (by decide)) hl.1 rfl (lv_room (Nat.le_of_ble_eq_true rfl)) dX8_parts_136 (fun H locs hw => ?_)
                refine lv_aload_n hx hb dX8_parts_139 rfl (lv_at hl 0 rfl) ?_
                refine lv_bipush (v := (11 : Int32)) hx hb dX8_parts_140 (by decide) ?_
                replace h := bnd h
                obtain ⟨v19, e19, h⟩ := h
                refine m_callVv (k := 36) (As := [.int (11 : Int32)]) (rest := []) cx.fix hi hw (cc_X8_lessLetter (l := l) (G := G) (sz := H.size) hi e19) (by decide) rfl rfl (w_cV 1 hts q_121 q_122 q_123 q_124 q_125 rfl rfl (by decide) (by decide)) hl.1 rfl (lv_room (Nat.le_of_ble_eq_true rfl)) dX8_parts_142 (fun H locs hw => ?_)
                refine lv_aload_n hx hb dX8_parts_145 rfl (lv_at hl 0 rfl) ?_
                refine lv_iconst (v := (0 : Int32)) hx hb dX8_parts_146 (by decide) ?_
                refine lv_bipush (v := (17 : Int32)) hx hb dX8_parts_147 (by decide) ?_
                replace h := bnd h
                obtain ⟨v20, e20, h⟩ := h
                refine m_callVv (k := 36) (As := [.int (0 : Int32), .int (17 : Int32)]) (rest := []) cx.fix hi hw (cc_X8_copy (l := l) (G := G) (sz := H.size) hi e20) (by decide) rfl rfl (w_cV 2 hts q_24 q_25 q_26 q_27 q_28 rfl rfl (by decide) (by decide)) hl.1 rfl (lv_room (Nat.le_of_ble_eq_true rfl)) dX8_parts_149 (fun H locs hw => ?_)
                refine lv_aload_n hx hb dX8_parts_152 rfl (lv_at hl 0 rfl) ?_
                refine lv_bipush (v := (17 : Int32)) hx hb dX8_parts_153 (by decide) ?_
                refine lv_bipush (v := (11 : Int32)) hx hb dX8_parts_155 (by decide) ?_
                refine lv_bipush (v := (18 : Int32)) hx hb dX8_parts_157 (by decide) ?_
                replace h := bnd h
                obtain ⟨v21, e21, h⟩ := h
                refine m_callVv (k := 36) (As := [.int (17 : Int32), .int (11 : Int32), .int (18 : Int32)]) (rest := []) cx.fix hi hw (cc_X8_commonRow (l := l) (G := G) (sz := H.size) hi e21) (by decide) rfl rfl (w_cV 3 hts q_79 q_80 q_81 q_82 q_83 rfl rfl (by decide) (by decide)) hl.1 rfl (lv_room (Nat.le_of_ble_eq_true rfl)) dX8_parts_159 (fun H locs hw => ?_)
                refine lv_aload_n hx hb dX8_parts_162 rfl (lv_at hl 0 rfl) ?_
                refine m_get (k := 36) (C := RX8) (T := TX8) (N := 18) (ref := "LiftFactorsModel") (v := .ref (adr 42)) hx hb hi hts inX8_u hown hw (by decide) rfl 8 (by decide) q_1 rfl rfl dX8_parts_163 ?_
                refine lv_bipush (v := (18 : Int32)) hx hb dX8_parts_166 (by decide) ?_
                replace h := bnd h
                obtain ⟨v22, e22, h⟩ := h
                refine m_iald hx hb hi hw e22 dX8_parts_168 ?_
                refine lv_istore (lv' := [(6, .int v22), (0, .ref (adr 36)), (2, .int a1), (3, .int v6), (4, .int v14), (5, .int v15)]) hx hb dX8_parts_169 hl (by decide) rfl (fun ls hl => ?_)
                refine lv_iconst (v := (1 : Int32)) hx hb dX8_parts_171 (by decide) ?_
                refine lv_istore (lv' := [(7, .int (1 : Int32)), (6, .int v22), (0, .ref (adr 36)), (2, .int a1), (3, .int v6), (4, .int v14), (5, .int v15)]) hx hb dX8_parts_172 hl (by decide) rfl (fun ls hl => ?_)
                replace h := bnd h
                obtain ⟨v30, j29, h⟩ := h
                refine lp_W (Wst := fun (st : Int32 × Int32) => ∀ (ls : Array Slot) (H : Heap) (locs : List Loc), lv_has ls 8 [(0, .ref (adr 36)), (2, .int a1), (3, .int v6), (4, .int v14), (5, .int v15), (6, .int st.1), (7, .int st.2)] → wH G A s.heap s (LL adr) (wf G adr v21) H locs → W p l e { frames := 4, cells := 0, slots := 0, locals := 111 } s m args below meth c H locs 0 0 Q (F0 m 174 ls [])) (fin := fun (r : Int32) => ∀ (ls : Array Slot) (H : Heap) (locs : List Loc), lv_has ls 8 [(0, .ref (adr 36)), (2, .int a1), (3, .int v6), (4, .int v14), (5, .int v15), (6, .int r)] → wH G A s.heap s (LL adr) (wf G adr v21) H locs → W p l e { frames := 4, cells := 0, slots := 0, locals := 111 } s m args below meth c H locs 0 0 Q (F0 m 210 ls [])) ?_ n _ _ j29 ?_ _ _ _ (lv_sub hl [2, 3, 4, 5, 6, 1, 0] rfl) hw
                · clear h j29 hw hl
                  intro ⟨v23, v24⟩ x h k1 k2 ls H locs hl hw
                  (try dsimp only at k1 k2 hl hw ⊢)
                  unfold l_X8_parts_174 at h
                  (try dsimp only at h)
                  refine lv_iload hx hb dX8_parts_174 (lv_at hl 6 rfl) ?_
                  refine lv_iload hx hb dX8_parts_176 (lv_at hl 4 rfl) ?_
                  refine lv_icmp_ge (tgt := 210) hx hb dX8_parts_178 (by decide) (fun hc => ?_) (fun hc => ?_)
                  · replace h := ite_t hc h
                    cases h
                    exact k1 _ rfl _ _ _ (lv_sub hl [0, 1, 2, 3, 4, 5] rfl) hw
                  · replace h := ite_f hc h
                    refine lv_iload hx hb dX8_parts_181 (lv_at hl 4 rfl) ?_
                    refine lv_iload hx hb dX8_parts_183 (lv_at hl 6 rfl) ?_
                    replace h := bnd h
                    obtain ⟨v25, e25, h⟩ := h
                    obtain ⟨ne25, rfl⟩ := rmI_ok e25
                    refine lv_irem hx hb dX8_parts_185 ne25 ?_
                    obtain ⟨v25, e25⟩ : ∃ z9, z9 = v15 - v15 / v24 * v24 := ⟨_, rfl⟩
                    rw [← e25] at h ⊢
                    replace h := bnd h
                    obtain ⟨v27, j28, h⟩ := h
                    have kj : ∀ (ls : Array Slot) (H : Heap) (locs : List Loc), lv_has ls 8 [(0, .ref (adr 36)), (2, .int a1), (3, .int v6), (4, .int v14), (5, .int v15), (6, .int v27), (7, .int v24)] → wH G A s.heap s (LL adr) (wf G adr v21) H locs → W p l e { frames := 4, cells := 0, slots := 0, locals := 111 } s m args below meth c H locs 0 0 Q (F0 m 204 ls []) := by
                      intro ls H locs hl hw
                      refine lv_iinc (v := v24 + 1) (lv' := [(7, .int (v24 + 1)), (0, .ref (adr 36)), (2, .int a1), (3, .int v6), (4, .int v14), (5, .int v15), (6, .int v27)]) hx hb dX8_parts_204 hl (k := 6) rfl (inc_p _ (by decide)) (by decide) rfl (fun ls hl => ?_)
                      refine lv_goto (tgt := 174) hx hb dX8_parts_207 (by decide) ?_
                      cases h
                      exact k2 _ rfl _ _ _ (lv_sub hl [1, 2, 3, 4, 5, 6, 0] rfl) hw
                    clear h
                    replace h := j28
                    clear j28
                    refine lv_if_ne (tgt := 204) hx hb dX8_parts_186 (by decide) (fun hc => ?_) (fun hc => ?_)
                    · replace h := ite_f hc h
                      cases h
                      exact kj _ _ _ (lv_sub hl [0, 1, 2, 3, 4, 5, 6] rfl) hw
                    · replace h := ite_t hc h
                      refine lv_iload hx hb dX8_parts_189 (lv_at hl 5 rfl) ?_
                      refine lv_iload hx hb dX8_parts_191 (lv_at hl 6 rfl) ?_
                      refine lv_aload_n hx hb dX8_parts_193 rfl (lv_at hl 0 rfl) ?_
                      refine m_get (k := 36) (C := RX8) (T := TX8) (N := 18) (ref := "LiftFactorsModel") (v := .ref (adr 45)) hx hb hi hts inX8_u hown hw (by decide) rfl 14 (by decide) q_236 rfl rfl dX8_parts_194 ?_
                      refine lv_iload hx hb dX8_parts_197 (lv_at hl 6 rfl) ?_
                      replace h := bnd h
                      obtain ⟨v26, e26, h⟩ := h
                      refine m_iald hx hb hi hw e26 dX8_parts_199 ?_
                      refine lv_imul hx hb dX8_parts_200 ?_
                      refine lv_isub hx hb dX8_parts_201 ?_
                      refine lv_istore (lv' := [(6, .int (v23 - (v24 * v26))), (0, .ref (adr 36)), (2, .int a1), (3, .int v6), (4, .int v14), (5, .int v15), (7, .int v24)]) hx hb dX8_parts_202 hl (by decide) rfl (fun ls hl => ?_)
                      cases h
                      exact kj _ _ _ (lv_sub hl [1, 2, 3, 4, 5, 0, 6] rfl) hw
                · clear hw hl
                  intro ls H locs hl hw
                  (try dsimp only at hl hw ⊢)
                  refine lv_aload_n hx hb dX8_parts_210 rfl (lv_at hl 0 rfl) ?_
                  refine m_get (k := 36) (C := RX8) (T := TX8) (N := 18) (ref := "LiftFactorsModel") (v := .ref (adr 45)) hx hb hi hts inX8_u hown hw (by decide) rfl 14 (by decide) q_236 rfl rfl dX8_parts_211 ?_
                  refine lv_iload hx hb dX8_parts_214 (lv_at hl 4 rfl) ?_
                  refine lv_iload hx hb dX8_parts_216 (lv_at hl 5 rfl) ?_
                  refine lv_iload hx hb dX8_parts_218 (lv_at hl 4 rfl) ?_
                  replace h := bnd h
                  obtain ⟨v31, e31, h⟩ := h
                  obtain ⟨ne31, rfl⟩ := dvI_ok e31
                  refine lv_idiv hx hb dX8_parts_220 ne31 ?_
                  obtain ⟨v31, e31⟩ : ∃ z9, z9 = v30 / v15 := ⟨_, rfl⟩
                  rw [← e31] at h ⊢
                  replace h := bnd h
                  obtain ⟨v32, e32, h⟩ := h
                  refine m_iast hx hb hi hw e32 dX8_parts_221 (fun H locs hw => ?_)
                  refine lv_iload hx hb dX8_parts_222 (lv_at hl 3 rfl) ?_
                  refine lv_iload hx hb dX8_parts_224 (lv_at hl 5 rfl) ?_
                  refine lv_iload hx hb dX8_parts_226 (lv_at hl 4 rfl) ?_
                  replace h := bnd h
                  obtain ⟨v33, e33, h⟩ := h
                  obtain ⟨ne33, rfl⟩ := dvI_ok e33
                  refine lv_idiv hx hb dX8_parts_228 ne33 ?_
                  obtain ⟨v33, e33⟩ : ∃ z9, z9 = v30 / v15 := ⟨_, rfl⟩
                  rw [← e33] at h ⊢
                  refine lv_iadd hx hb dX8_parts_229 ?_
                  refine lv_istore (lv' := [(4, .int (v14 + v33)), (0, .ref (adr 36)), (2, .int a1), (3, .int v6), (5, .int v15), (6, .int v30)]) hx hb dX8_parts_230 hl (by decide) rfl (fun ls hl => ?_)
                  refine lv_iinc (v := v15 + 1) (lv' := [(5, .int (v15 + 1)), (4, .int (v14 + v33)), (0, .ref (adr 36)), (2, .int a1), (3, .int v6), (6, .int v30)]) hx hb dX8_parts_232 hl (k := 4) rfl (inc_p _ (by decide)) (by decide) rfl (fun ls hl => ?_)
                  refine lv_goto (tgt := 106) hx hb dX8_parts_235 (by decide) ?_
                  cases h
                  exact k2 _ rfl _ _ _ (lv_sub hl [2, 3, 4, 1, 0] rfl) hw
            · clear hw hl
              intro ls H locs hl hw
              (try dsimp only at hl hw ⊢)
              refine lv_iload hx hb dX8_parts_238 (lv_at hl 0 rfl) ?_
              cases h
              exact kr _ _ _ _ dX8_parts_240 hw
          · replace h := ite_t hc h
            refine lv_iconst (v := (0 : Int32)) hx hb dX8_parts_80 (by decide) ?_
            cases h
            exact kr _ _ _ _ dX8_parts_81 hw
        · replace h := ite_f hc h
          refine lv_iconst (v := (-1 : Int32)) hx hb dX8_parts_74 (by decide) ?_
          cases h
          exact kr _ _ _ _ dX8_parts_75 hw
    · replace h := ite_f hc h
      refine lv_iconst (v := (0 : Int32)) hx hb dX8_parts_34 (by decide) ?_
      cases h
      exact kr _ _ _ _ dX8_parts_35 hw
  clear h
  replace h := j37
  clear j37
  refine lv_if_ne (tgt := 12) hx hb dX8_parts_5 (by decide) (fun hc => ?_) (fun hc => ?_)
  · replace h := ite_f hc h
    refine lv_iload_n hx hb dX8_parts_12 rfl (lv_at hl 2 rfl) ?_
    replace h := bnd h
    obtain ⟨v2, e2, h⟩ := h
    refine m_callSi (As := [.int a1]) (rest := [.ref (adr 36)]) cx.fix hw (cc_X8_isPrime (l := l) (G := G) (sz := H.size) (M := M) hi e2) (w_cS 1 hts q_232 q_233 q_234 q_235 rfl rfl (by decide) (by decide)) hl.1 rfl (lv_room (Nat.le_of_ble_eq_true rfl)) dX8_parts_13 (fun H locs hw => ?_)
    refine lv_if_ne (tgt := 23) hx hb dX8_parts_16 (by decide) (fun hc => ?_) (fun hc => ?_)
    · replace h := ite_f hc h
      refine lv_iconst (v := (0 : Int32)) hx hb dX8_parts_23 (by decide) ?_
      cases h
      exact kj _ _ _ (lv_sub hl [0, 1, 2] rfl) hw
    · replace h := ite_t hc h
      refine lv_iconst (v := (2 : Int32)) hx hb dX8_parts_19 (by decide) ?_
      refine lv_goto (tgt := 24) hx hb dX8_parts_20 (by decide) ?_
      cases h
      exact kj _ _ _ (lv_sub hl [0, 1, 2] rfl) hw
  · replace h := ite_t hc h
    refine lv_iconst (v := (1 : Int32)) hx hb dX8_parts_8 (by decide) ?_
    refine lv_goto (tgt := 24) hx hb dX8_parts_9 (by decide) ?_
    cases h
    exact kj _ _ _ (lv_sub hl [0, 1, 2] rfl) hw
theorem cc_X8_parts {l : Launch} {G : gG} {adr : Nat → Nat} {sz : Nat} (hi : adi adr) {n : Nat} {a0 : Int32} {a1 : Int32} {M M' : Mem} {r : Int32} (h : f_X8_parts n a0 a1 M = some (r, M')) : mI l yX8_parts cX8_parts 8 (some .int) { frames := 4, cells := 0, slots := 0, locals := 111 } G adr [.ref (adr 36), .int a0, .int a1] M sz r M' := by
  refine wEnter (by decide) (Nat.le_of_ble_eq_true rfl) ?_
  intro p e s m below meth c ls cx hinit hl hsz hw
  exact b_X8_parts cx hi h (fun pc ls H locs hd hw => w_iret (post := fun (r9 : Int32) (u : Mem) => r9 = r ∧ u = M') (lf := fun u => (LL adr, wf G adr u)) cx.1 cx.2.1 cx.2.2.1 cx.2.2.2.2.2.2 M' hw ⟨rfl, rfl⟩ hd) hl hw
def f_X8_squareFree (n : Nat) (a0 : Int32) (M : Mem) : Option (Int32 × Mem) :=
  Option.bind (f_X8_isPoly a0) fun v1 =>
  Option.bind (
    if v1 = 0 then
      some (1 : Int32)
    else
      some (0 : Int32)) fun v2 =>
  Option.bind (ptI M 36 3 v2) fun v3 =>
  if (v3.2 36 3) = 0 then
    Option.bind (f_X8_load n a0 (0 : Int32) v3) fun v4 =>
    Option.bind (ldI v4 42 (0 : Int32)) fun v5 =>
    if (1 : Int32) ≤ v5 then
      Option.bind (f_X8_primitive n (0 : Int32) v4) fun (v6, M7) =>
      Option.bind (f_X8_derive n (0 : Int32) (2 : Int32) M7) fun v8 =>
      Option.bind (f_X8_commonWhole n (0 : Int32) (2 : Int32) (11 : Int32) v8) fun v9 =>
      Option.bind (ldI v9 42 (11 : Int32)) fun v10 =>
      Option.bind (
        if v10 = 0 then
          some (1 : Int32)
        else
          some (0 : Int32)) fun v11 =>
      Option.bind (bz v11) fun v12 =>
      some (v12, v9)
    else
      Option.bind (ldI v4 42 (0 : Int32)) fun v14 =>
      Option.bind (
        if v14 = 0 then
          some (1 : Int32)
        else
          some (0 : Int32)) fun v15 =>
      Option.bind (bz v15) fun v16 =>
      some (v16, v4)
  else
    some ((0 : Int32), v3)
set_option maxRecDepth 100000 in
set_option maxHeartbeats 8000000 in
theorem b_X8_squareFree {p : Program} {l : Launch} {e : Env} {s : State} {m : MethodId} {args : Array Value} {below : List Frame} {meth : Method} {c : Code} {Q : State → Prop} {G : gG} {A : Nat → Prop} {adr : Nat → Nat} (cx : cX p s m args meth c cX8_squareFree (some .boolean) 2 yX8_squareFree.cls) (hi : adi adr) {n : Nat} {a0 : Int32} {M M' : Mem} {r : Int32} 
    (h : f_X8_squareFree n a0 M = some (r, M'))
    (kr : ∀ (pc : Nat) (ls : Array Slot) (H : Heap) (locs : List Loc), decode cX8_squareFree pc = .ok (.ireturn, 1) → narrow .boolean (.int r) = .int r → wH G A s.heap s (LL adr) (wf G adr M') H locs → W p l e { frames := 5, cells := 0, slots := 0, locals := 133 } s m args below meth c H locs 0 0 Q (F0 m pc ls [.int r]))
    {ls : Array Slot} {H : Heap} {locs : List Loc} (hl : lv_has ls 2 [(0, .ref (adr 36)), (1, .int a0)]) (hw : wH G A s.heap s (LL adr) (wf G adr M) H locs) : W p l e { frames := 5, cells := 0, slots := 0, locals := 133 } s m args below meth c H locs 0 0 Q (F0 m 0 ls []) := by
  obtain ⟨hx, hb, -, -, hown, hts, -⟩ := id cx
  have hown : s.vm.findClass RX8 = some m.cls := hown
  unfold f_X8_squareFree at h
  refine lv_aload_n hx hb dX8_squareFree_0 rfl (lv_at hl 0 rfl) ?_
  refine lv_iload_n hx hb dX8_squareFree_1 rfl (lv_at hl 1 rfl) ?_
  replace h := bnd h
  obtain ⟨v1, e1, h⟩ := h
  refine m_callSi (As := [.int a0]) (rest := [.ref (adr 36)]) cx.fix hw (cc_X8_isPoly (l := l) (G := G) (sz := H.size) (M := M) hi e1) (w_cS 1 hts q_167 q_168 q_169 q_170 rfl rfl (by decide) (by decide)) hl.1 rfl (lv_room (Nat.le_of_ble_eq_true rfl)) dX8_squareFree_2 (fun H locs hw => ?_)
  replace h := bnd h
  obtain ⟨v2, j18, h⟩ := h
  have kj : ∀ (ls : Array Slot) (H : Heap) (locs : List Loc), lv_has ls 2 [(0, .ref (adr 36)), (1, .int a0)] → wH G A s.heap s (LL adr) (wf G adr M) H locs → W p l e { frames := 5, cells := 0, slots := 0, locals := 133 } s m args below meth c H locs 0 0 Q (F0 m 13 ls [.int v2, .ref (adr 36)]) := by
    intro ls H locs hl hw
    replace h := bnd h
    obtain ⟨v3, e3, h⟩ := h
    obtain rfl := pt_s e3
    refine m_putI (k := 36) (C := RX8) (T := TX8) (N := 18) (ref := "LiftFactorsModel") hx hb hi hts inX8_u tyX8 tyX8_ok nmX8 hown hw (by decide) rfl 3 (by decide) q_171 rfl rfl (by decide +kernel) rfl dX8_squareFree_13 (fun H locs hw => ?_)
    obtain ⟨v3, e3⟩ : ∃ z9, z9 = sI M 36 3 v2 := ⟨_, rfl⟩
    rw [← e3] at h hw
    refine lv_aload_n hx hb dX8_squareFree_16 rfl (lv_at hl 0 rfl) ?_
    refine m_get (k := 36) (C := RX8) (T := TX8) (N := 18) (ref := "LiftFactorsModel") (v := .int (v3.2 36 3)) hx hb hi hts inX8_u hown hw (by decide) rfl 3 (by decide) q_171 rfl rfl dX8_squareFree_17 ?_
    refine lv_if_eq (tgt := 25) hx hb dX8_squareFree_20 (by decide) (fun hc => ?_) (fun hc => ?_)
    · replace h := ite_t hc h
      refine lv_aload_n hx hb dX8_squareFree_25 rfl (lv_at hl 0 rfl) ?_
      refine lv_iload_n hx hb dX8_squareFree_26 rfl (lv_at hl 1 rfl) ?_
      refine lv_iconst (v := (0 : Int32)) hx hb dX8_squareFree_27 (by decide) ?_
      replace h := bnd h
      obtain ⟨v4, e4, h⟩ := h
      refine m_callVv (k := 36) (As := [.int a0, .int (0 : Int32)]) (rest := []) cx.fix hi hw (cc_X8_load (l := l) (G := G) (sz := H.size) hi e4) (by decide) rfl rfl (w_cV 2 hts q_172 q_173 q_174 q_175 q_176 rfl rfl (by decide) (by decide)) hl.1 rfl (lv_room (Nat.le_of_ble_eq_true rfl)) dX8_squareFree_28 (fun H locs hw => ?_)
      refine lv_aload_n hx hb dX8_squareFree_31 rfl (lv_at hl 0 rfl) ?_
      refine m_get (k := 36) (C := RX8) (T := TX8) (N := 18) (ref := "LiftFactorsModel") (v := .ref (adr 42)) hx hb hi hts inX8_u hown hw (by decide) rfl 8 (by decide) q_1 rfl rfl dX8_squareFree_32 ?_
      refine lv_iconst (v := (0 : Int32)) hx hb dX8_squareFree_35 (by decide) ?_
      replace h := bnd h
      obtain ⟨v5, e5, h⟩ := h
      refine m_iald hx hb hi hw e5 dX8_squareFree_36 ?_
      refine lv_iconst (v := (1 : Int32)) hx hb dX8_squareFree_37 (by decide) ?_
      refine lv_icmp_ge (tgt := 56) hx hb dX8_squareFree_38 (by decide) (fun hc => ?_) (fun hc => ?_)
      · replace h := ite_t hc h
        refine lv_aload_n hx hb dX8_squareFree_56 rfl (lv_at hl 0 rfl) ?_
        refine lv_iconst (v := (0 : Int32)) hx hb dX8_squareFree_57 (by decide) ?_
        replace h := bnd h
        obtain ⟨⟨v6, M7⟩, e6, h⟩ := h
        refine m_callVl (k := 36) (As := [.int (0 : Int32)]) (rest := []) cx.fix hi hw (cc_X8_primitive (l := l) (G := G) (sz := H.size) hi e6) (by decide) rfl rfl (w_cV 1 hts q_64 q_65 q_66 q_67 q_68 rfl rfl (by decide) (by decide)) hl.1 rfl (lv_room (Nat.le_of_ble_eq_true rfl)) dX8_squareFree_58 (fun H locs hw => ?_)
        refine lv_pop2_2 hx hb dX8_squareFree_61 rfl ?_
        refine lv_aload_n hx hb dX8_squareFree_62 rfl (lv_at hl 0 rfl) ?_
        refine lv_iconst (v := (0 : Int32)) hx hb dX8_squareFree_63 (by decide) ?_
        refine lv_iconst (v := (2 : Int32)) hx hb dX8_squareFree_64 (by decide) ?_
        replace h := bnd h
        obtain ⟨v8, e8, h⟩ := h
        refine m_callVv (k := 36) (As := [.int (0 : Int32), .int (2 : Int32)]) (rest := []) cx.fix hi hw (cc_X8_derive (l := l) (G := G) (sz := H.size) hi e8) (by decide) rfl rfl (w_cV 2 hts q_132 q_133 q_134 q_135 q_136 rfl rfl (by decide) (by decide)) hl.1 rfl (lv_room (Nat.le_of_ble_eq_true rfl)) dX8_squareFree_65 (fun H locs hw => ?_)
        refine lv_aload_n hx hb dX8_squareFree_68 rfl (lv_at hl 0 rfl) ?_
        refine lv_iconst (v := (0 : Int32)) hx hb dX8_squareFree_69 (by decide) ?_
        refine lv_iconst (v := (2 : Int32)) hx hb dX8_squareFree_70 (by decide) ?_
        refine lv_bipush (v := (11 : Int32)) hx hb dX8_squareFree_71 (by decide) ?_
        replace h := bnd h
        obtain ⟨v9, e9, h⟩ := h
        refine m_callVv (k := 36) (As := [.int (0 : Int32), .int (2 : Int32), .int (11 : Int32)]) (rest := []) cx.fix hi hw (cc_X8_commonWhole (l := l) (G := G) (sz := H.size) hi e9) (by decide) rfl rfl (w_cV 3 hts q_161 q_162 q_163 q_164 q_165 rfl rfl (by decide) (by decide)) hl.1 rfl (lv_room (Nat.le_of_ble_eq_true rfl)) dX8_squareFree_73 (fun H locs hw => ?_)
        refine lv_aload_n hx hb dX8_squareFree_76 rfl (lv_at hl 0 rfl) ?_
        refine m_get (k := 36) (C := RX8) (T := TX8) (N := 18) (ref := "LiftFactorsModel") (v := .ref (adr 42)) hx hb hi hts inX8_u hown hw (by decide) rfl 8 (by decide) q_1 rfl rfl dX8_squareFree_77 ?_
        refine lv_bipush (v := (11 : Int32)) hx hb dX8_squareFree_80 (by decide) ?_
        replace h := bnd h
        obtain ⟨v10, e10, h⟩ := h
        refine m_iald hx hb hi hw e10 dX8_squareFree_82 ?_
        replace h := bnd h
        obtain ⟨v11, j13, h⟩ := h
        have kj : ∀ (ls : Array Slot) (H : Heap) (locs : List Loc), lv_has ls 2 [] → wH G A s.heap s (LL adr) (wf G adr v9) H locs → W p l e { frames := 5, cells := 0, slots := 0, locals := 133 } s m args below meth c H locs 0 0 Q (F0 m 91 ls [.int v11]) := by
          intro ls H locs hl hw
          replace h := bnd h
          obtain ⟨v12, e9, h⟩ := h
          obtain ⟨rfl, e9⟩ := bz_ok e9
          cases h
          exact kr _ _ _ _ dX8_squareFree_91 e9 hw
        clear h
        replace h := j13
        clear j13
        refine lv_if_ne (tgt := 90) hx hb dX8_squareFree_83 (by decide) (fun hc => ?_) (fun hc => ?_)
        · replace h := ite_f hc h
          refine lv_iconst (v := (0 : Int32)) hx hb dX8_squareFree_90 (by decide) ?_
          cases h
          exact kj _ _ _ (lv_sub hl [] rfl) hw
        · replace h := ite_t hc h
          refine lv_iconst (v := (1 : Int32)) hx hb dX8_squareFree_86 (by decide) ?_
          refine lv_goto (tgt := 91) hx hb dX8_squareFree_87 (by decide) ?_
          cases h
          exact kj _ _ _ (lv_sub hl [] rfl) hw
      · replace h := ite_f hc h
        refine lv_aload_n hx hb dX8_squareFree_41 rfl (lv_at hl 0 rfl) ?_
        refine m_get (k := 36) (C := RX8) (T := TX8) (N := 18) (ref := "LiftFactorsModel") (v := .ref (adr 42)) hx hb hi hts inX8_u hown hw (by decide) rfl 8 (by decide) q_1 rfl rfl dX8_squareFree_42 ?_
        refine lv_iconst (v := (0 : Int32)) hx hb dX8_squareFree_45 (by decide) ?_
        replace h := bnd h
        obtain ⟨v14, e14, h⟩ := h
        refine m_iald hx hb hi hw e14 dX8_squareFree_46 ?_
        replace h := bnd h
        obtain ⟨v15, j17, h⟩ := h
        have kj : ∀ (ls : Array Slot) (H : Heap) (locs : List Loc), lv_has ls 2 [] → wH G A s.heap s (LL adr) (wf G adr v4) H locs → W p l e { frames := 5, cells := 0, slots := 0, locals := 133 } s m args below meth c H locs 0 0 Q (F0 m 55 ls [.int v15]) := by
          intro ls H locs hl hw
          replace h := bnd h
          obtain ⟨v16, e9, h⟩ := h
          obtain ⟨rfl, e9⟩ := bz_ok e9
          cases h
          exact kr _ _ _ _ dX8_squareFree_55 e9 hw
        clear h
        replace h := j17
        clear j17
        refine lv_if_ne (tgt := 54) hx hb dX8_squareFree_47 (by decide) (fun hc => ?_) (fun hc => ?_)
        · replace h := ite_f hc h
          refine lv_iconst (v := (0 : Int32)) hx hb dX8_squareFree_54 (by decide) ?_
          cases h
          exact kj _ _ _ (lv_sub hl [] rfl) hw
        · replace h := ite_t hc h
          refine lv_iconst (v := (1 : Int32)) hx hb dX8_squareFree_50 (by decide) ?_
          refine lv_goto (tgt := 55) hx hb dX8_squareFree_51 (by decide) ?_
          cases h
          exact kj _ _ _ (lv_sub hl [] rfl) hw
    · replace h := ite_f hc h
      refine lv_iconst (v := (0 : Int32)) hx hb dX8_squareFree_23 (by decide) ?_
      cases h
      exact kr _ _ _ _ dX8_squareFree_24 (by decide) hw
  clear h
  replace h := j18
  clear j18
  refine lv_if_eq (tgt := 12) hx hb dX8_squareFree_5 (by decide) (fun hc => ?_) (fun hc => ?_)
  · replace h := ite_t hc h
    refine lv_iconst (v := (1 : Int32)) hx hb dX8_squareFree_12 (by decide) ?_
    cases h
    exact kj _ _ _ (lv_sub hl [0, 1] rfl) hw
  · replace h := ite_f hc h
    refine lv_iconst (v := (0 : Int32)) hx hb dX8_squareFree_8 (by decide) ?_
    refine lv_goto (tgt := 13) hx hb dX8_squareFree_9 (by decide) ?_
    cases h
    exact kj _ _ _ (lv_sub hl [0, 1] rfl) hw
theorem cc_X8_squareFree {l : Launch} {G : gG} {adr : Nat → Nat} {sz : Nat} (hi : adi adr) {n : Nat} {a0 : Int32} {M M' : Mem} {r : Int32} (h : f_X8_squareFree n a0 M = some (r, M')) : mI l yX8_squareFree cX8_squareFree 2 (some .boolean) { frames := 5, cells := 0, slots := 0, locals := 133 } G adr [.ref (adr 36), .int a0] M sz r M' := by
  refine wEnter (by decide) (Nat.le_of_ble_eq_true rfl) ?_
  intro p e s m below meth c ls cx hinit hl hsz hw
  exact b_X8_squareFree cx hi h (fun pc ls H locs hd hz hw => w_zret (post := fun (r9 : Int32) (u : Mem) => r9 = r ∧ u = M') (lf := fun u => (LL adr, wf G adr u)) cx.1 cx.2.1 cx.2.2.1 cx.2.2.2.2.2.2 hz M' hw ⟨rfl, rfl⟩ hd) hl hw
theorem q_237 : Cond.constant RX8 226 (1000000) ∈ uU := uU_in (by decide +kernel) (by decide +kernel)
def l_X8_value_47 (a0 : Int32) (a1 : Int32) (a2 : Int32) (v3 : Mem) : Int64 × Int32 → Option ((Int64) ⊕ (Int64 × Int32)) := fun (v4, v5) =>
  if v5 < 0 then
    some (.inl v4)
  else
    Option.bind (ldI v3 38 (((11 : Int32) * a0) + v5)) fun v6 =>
    Option.bind (rmJ ((v4 * a1.toInt64) + v6.toInt64) a2.toInt64) fun v7 =>
    some (.inr (v7, v5 + (-1)))
def f_X8_value (n : Nat) (a0 : Int32) (a1 : Int32) (a2 : Int32) (M : Mem) : Option (Int32 × Mem) :=
  Option.bind (f_X8_isPoly a0) fun v1 =>
  Option.bind (
    if v1 = 0 then
      some (1 : Int32)
    else
      if a2 < (1 : Int32) then
        some (2 : Int32)
      else
        if a2 ≤ (1000000 : Int32) then
          some (0 : Int32)
        else
          some (2 : Int32)) fun v2 =>
  Option.bind (ptI M 36 3 v2) fun v3 =>
  if (v3.2 36 3) = 0 then
    Option.bind (lpF (l_X8_value_47 a0 a1 a2 v3) n ((0 : Int64), (10 : Int32))) fun v9 =>
    Option.bind (
      if (0 : Int64) ≤ v9 then
        some v9
      else
        some (v9 + a2.toInt64)) fun v10 =>
    some (v10.toInt32, v3)
  else
    some ((0 : Int32), v3)
set_option maxRecDepth 100000 in
set_option maxHeartbeats 8000000 in
theorem b_X8_value {p : Program} {l : Launch} {e : Env} {s : State} {m : MethodId} {args : Array Value} {below : List Frame} {meth : Method} {c : Code} {Q : State → Prop} {G : gG} {A : Nat → Prop} {adr : Nat → Nat} (cx : cX p s m args meth c cX8_value (some .int) 7 yX8_value.cls) (hi : adi adr) {n : Nat} {a0 : Int32} {a1 : Int32} {a2 : Int32} {M M' : Mem} {r : Int32} 
    (h : f_X8_value n a0 a1 a2 M = some (r, M'))
    (kr : ∀ (pc : Nat) (ls : Array Slot) (H : Heap) (locs : List Loc), decode cX8_value pc = .ok (.ireturn, 1) → wH G A s.heap s (LL adr) (wf G adr M') H locs → W p l e { frames := 1, cells := 0, slots := 0, locals := 20 } s m args below meth c H locs 0 0 Q (F0 m pc ls [.int r]))
    {ls : Array Slot} {H : Heap} {locs : List Loc} (hl : lv_has ls 7 [(0, .ref (adr 36)), (1, .int a0), (2, .int a1), (3, .int a2)]) (hw : wH G A s.heap s (LL adr) (wf G adr M) H locs) : W p l e { frames := 1, cells := 0, slots := 0, locals := 20 } s m args below meth c H locs 0 0 Q (F0 m 0 ls []) := by
  obtain ⟨hx, hb, -, -, hown, hts, -⟩ := id cx
  have hown : s.vm.findClass RX8 = some m.cls := hown
  unfold f_X8_value at h
  refine lv_aload_n hx hb dX8_value_0 rfl (lv_at hl 0 rfl) ?_
  refine lv_iload_n hx hb dX8_value_1 rfl (lv_at hl 1 rfl) ?_
  replace h := bnd h
  obtain ⟨v1, e1, h⟩ := h
  refine m_callSi (As := [.int a0]) (rest := [.ref (adr 36)]) cx.fix hw (cc_X8_isPoly (l := l) (G := G) (sz := H.size) (M := M) hi e1) (w_cS 1 hts q_167 q_168 q_169 q_170 rfl rfl (by decide) (by decide)) hl.1 rfl (lv_room (Nat.le_of_ble_eq_true rfl)) dX8_value_2 (fun H locs hw => ?_)
  replace h := bnd h
  obtain ⟨v2, j12, h⟩ := h
  have kj : ∀ (ls : Array Slot) (H : Heap) (locs : List Loc), lv_has ls 7 [(0, .ref (adr 36)), (1, .int a0), (2, .int a1), (3, .int a2)] → wH G A s.heap s (LL adr) (wf G adr M) H locs → W p l e { frames := 1, cells := 0, slots := 0, locals := 20 } s m args below meth c H locs 0 0 Q (F0 m 28 ls [.int v2, .ref (adr 36)]) := by
    intro ls H locs hl hw
    replace h := bnd h
    obtain ⟨v3, e3, h⟩ := h
    obtain rfl := pt_s e3
    refine m_putI (k := 36) (C := RX8) (T := TX8) (N := 18) (ref := "LiftFactorsModel") hx hb hi hts inX8_u tyX8 tyX8_ok nmX8 hown hw (by decide) rfl 3 (by decide) q_171 rfl rfl (by decide +kernel) rfl dX8_value_28 (fun H locs hw => ?_)
    obtain ⟨v3, e3⟩ : ∃ z9, z9 = sI M 36 3 v2 := ⟨_, rfl⟩
    rw [← e3] at h hw
    refine lv_aload_n hx hb dX8_value_31 rfl (lv_at hl 0 rfl) ?_
    refine m_get (k := 36) (C := RX8) (T := TX8) (N := 18) (ref := "LiftFactorsModel") (v := .int (v3.2 36 3)) hx hb hi hts inX8_u hown hw (by decide) rfl 3 (by decide) q_171 rfl rfl dX8_value_32 ?_
    refine lv_if_eq (tgt := 40) hx hb dX8_value_35 (by decide) (fun hc => ?_) (fun hc => ?_)
    · replace h := ite_t hc h
      refine lv_lconst (v := (0 : Int64)) hx hb dX8_value_40 (by decide) ?_
      refine lv_lstore (lv' := [(4, .long (0 : Int64)), (0, .ref (adr 36)), (1, .int a0), (2, .int a1), (3, .int a2)]) hx hb dX8_value_41 hl (by decide) rfl (fun ls hl => ?_)
      refine lv_bipush (v := (10 : Int32)) hx hb dX8_value_43 (by decide) ?_
      refine lv_istore (lv' := [(6, .int (10 : Int32)), (4, .long (0 : Int64)), (0, .ref (adr 36)), (1, .int a0), (2, .int a1), (3, .int a2)]) hx hb dX8_value_45 hl (by decide) rfl (fun ls hl => ?_)
      replace h := bnd h
      obtain ⟨v9, j8, h⟩ := h
      refine lp_W (Wst := fun (st : Int64 × Int32) => ∀ (ls : Array Slot) (H : Heap) (locs : List Loc), lv_has ls 7 [(0, .ref (adr 36)), (1, .int a0), (2, .int a1), (3, .int a2), (4, .long st.1), (6, .int st.2)] → wH G A s.heap s (LL adr) (wf G adr v3) H locs → W p l e { frames := 1, cells := 0, slots := 0, locals := 20 } s m args below meth c H locs 0 0 Q (F0 m 47 ls [])) (fin := fun (r : Int64) => ∀ (ls : Array Slot) (H : Heap) (locs : List Loc), lv_has ls 7 [(3, .int a2), (4, .long r)] → wH G A s.heap s (LL adr) (wf G adr v3) H locs → W p l e { frames := 1, cells := 0, slots := 0, locals := 20 } s m args below meth c H locs 0 0 Q (F0 m 82 ls [])) ?_ n _ _ j8 ?_ _ _ _ (lv_sub hl [2, 3, 4, 5, 1, 0] rfl) hw
      · clear h j8 hw hl
        intro ⟨v4, v5⟩ x h k1 k2 ls H locs hl hw
        (try dsimp only at k1 k2 hl hw ⊢)
        unfold l_X8_value_47 at h
        (try dsimp only at h)
        refine lv_iload hx hb dX8_value_47 (lv_at hl 5 rfl) ?_
        refine lv_if_lt (tgt := 82) hx hb dX8_value_49 (by decide) (fun hc => ?_) (fun hc => ?_)
        · replace h := ite_t hc h
          cases h
          exact k1 _ rfl _ _ _ (lv_sub hl [3, 4] rfl) hw
        · replace h := ite_f hc h
          refine lv_lload hx hb dX8_value_52 (lv_at hl 4 rfl) ?_
          refine lv_iload_n hx hb dX8_value_54 rfl (lv_at hl 2 rfl) ?_
          refine lv_i2l (v := a1.toInt64) hx hb dX8_value_55 rfl ?_
          refine lv_lmul hx hb dX8_value_56 ?_
          refine lv_aload_n hx hb dX8_value_57 rfl (lv_at hl 0 rfl) ?_
          refine m_get (k := 36) (C := RX8) (T := TX8) (N := 18) (ref := "LiftFactorsModel") (v := .ref (adr 38)) hx hb hi hts inX8_u hown hw (by decide) rfl 1 (by decide) q_10 rfl rfl dX8_value_58 ?_
          refine lv_bipush (v := (11 : Int32)) hx hb dX8_value_61 (by decide) ?_
          refine lv_iload_n hx hb dX8_value_63 rfl (lv_at hl 1 rfl) ?_
          refine lv_imul hx hb dX8_value_64 ?_
          refine lv_iload hx hb dX8_value_65 (lv_at hl 5 rfl) ?_
          refine lv_iadd hx hb dX8_value_67 ?_
          replace h := bnd h
          obtain ⟨v6, e6, h⟩ := h
          refine m_iald hx hb hi hw e6 dX8_value_68 ?_
          refine lv_i2l (v := v6.toInt64) hx hb dX8_value_69 rfl ?_
          refine lv_ladd hx hb dX8_value_70 ?_
          refine lv_iload_n hx hb dX8_value_71 rfl (lv_at hl 3 rfl) ?_
          refine lv_i2l (v := a2.toInt64) hx hb dX8_value_72 rfl ?_
          replace h := bnd h
          obtain ⟨v7, e7, h⟩ := h
          obtain ⟨ne7, rfl⟩ := rmJ_ok e7
          refine lv_lrem hx hb dX8_value_73 ne7 ?_
          obtain ⟨v7, e7⟩ : ∃ z9, z9 = ((v4 * a1.toInt64) + v6.toInt64) - ((v4 * a1.toInt64) + v6.toInt64) / a2.toInt64 * a2.toInt64 := ⟨_, rfl⟩
          rw [← e7] at h ⊢
          refine lv_lstore (lv' := [(4, .long v7), (0, .ref (adr 36)), (1, .int a0), (2, .int a1), (3, .int a2), (6, .int v5)]) hx hb dX8_value_74 hl (by decide) rfl (fun ls hl => ?_)
          refine lv_iinc (v := v5 + (-1)) (lv' := [(6, .int (v5 + (-1))), (4, .long v7), (0, .ref (adr 36)), (1, .int a0), (2, .int a1), (3, .int a2)]) hx hb dX8_value_76 hl (k := 5) rfl (inc_p _ (by decide)) (by decide) rfl (fun ls hl => ?_)
          refine lv_goto (tgt := 47) hx hb dX8_value_79 (by decide) ?_
          cases h
          exact k2 _ rfl _ _ _ (lv_sub hl [2, 3, 4, 5, 1, 0] rfl) hw
      · clear hw hl
        intro ls H locs hl hw
        (try dsimp only at hl hw ⊢)
        refine lv_lload hx hb dX8_value_82 (lv_at hl 1 rfl) ?_
        refine lv_lconst (v := (0 : Int64)) hx hb dX8_value_84 (by decide) ?_
        replace h := bnd h
        obtain ⟨v10, j11, h⟩ := h
        have kj : ∀ (ls : Array Slot) (H : Heap) (locs : List Loc), lv_has ls 7 [] → wH G A s.heap s (LL adr) (wf G adr v3) H locs → W p l e { frames := 1, cells := 0, slots := 0, locals := 20 } s m args below meth c H locs 0 0 Q (F0 m 99 ls [.long v10]) := by
          intro ls H locs hl hw
          refine lv_l2i (v := v10.toInt32) hx hb dX8_value_99 rfl ?_
          cases h
          exact kr _ _ _ _ dX8_value_100 hw
        clear h
        replace h := j11
        clear j11
        refine m_lcmp_ge (tgt := 97) hx hb dX8_value_85 dX8_value_86 (by decide) (fun hc => ?_) (fun hc => ?_)
        · replace h := ite_t hc h
          refine lv_lload hx hb dX8_value_97 (lv_at hl 1 rfl) ?_
          cases h
          exact kj _ _ _ (lv_sub hl [] rfl) hw
        · replace h := ite_f hc h
          refine lv_lload hx hb dX8_value_89 (lv_at hl 1 rfl) ?_
          refine lv_iload_n hx hb dX8_value_91 rfl (lv_at hl 0 rfl) ?_
          refine lv_i2l (v := a2.toInt64) hx hb dX8_value_92 rfl ?_
          refine lv_ladd hx hb dX8_value_93 ?_
          refine lv_goto (tgt := 99) hx hb dX8_value_94 (by decide) ?_
          cases h
          exact kj _ _ _ (lv_sub hl [] rfl) hw
    · replace h := ite_f hc h
      refine lv_iconst (v := (0 : Int32)) hx hb dX8_value_38 (by decide) ?_
      cases h
      exact kr _ _ _ _ dX8_value_39 hw
  clear h
  replace h := j12
  clear j12
  refine lv_if_ne (tgt := 12) hx hb dX8_value_5 (by decide) (fun hc => ?_) (fun hc => ?_)
  · replace h := ite_f hc h
    refine lv_iload_n hx hb dX8_value_12 rfl (lv_at hl 3 rfl) ?_
    refine lv_iconst (v := (1 : Int32)) hx hb dX8_value_13 (by decide) ?_
    refine lv_icmp_lt (tgt := 23) hx hb dX8_value_14 (by decide) (fun hc => ?_) (fun hc => ?_)
    · replace h := ite_t hc h
      refine lv_iconst (v := (2 : Int32)) hx hb dX8_value_23 (by decide) ?_
      refine lv_goto (tgt := 28) hx hb dX8_value_24 (by decide) ?_
      cases h
      exact kj _ _ _ (lv_sub hl [0, 1, 2, 3] rfl) hw
    · replace h := ite_f hc h
      refine lv_iload_n hx hb dX8_value_17 rfl (lv_at hl 3 rfl) ?_
      refine lv_ldc (v := (1000000 : Int32)) hx hb hown (hts _ q_237) dX8_value_18 ?_
      refine lv_icmp_le (tgt := 27) hx hb dX8_value_20 (by decide) (fun hc => ?_) (fun hc => ?_)
      · replace h := ite_t hc h
        refine lv_iconst (v := (0 : Int32)) hx hb dX8_value_27 (by decide) ?_
        cases h
        exact kj _ _ _ (lv_sub hl [0, 1, 2, 3] rfl) hw
      · replace h := ite_f hc h
        refine lv_iconst (v := (2 : Int32)) hx hb dX8_value_23 (by decide) ?_
        refine lv_goto (tgt := 28) hx hb dX8_value_24 (by decide) ?_
        cases h
        exact kj _ _ _ (lv_sub hl [0, 1, 2, 3] rfl) hw
  · replace h := ite_t hc h
    refine lv_iconst (v := (1 : Int32)) hx hb dX8_value_8 (by decide) ?_
    refine lv_goto (tgt := 28) hx hb dX8_value_9 (by decide) ?_
    cases h
    exact kj _ _ _ (lv_sub hl [0, 1, 2, 3] rfl) hw
theorem cc_X8_value {l : Launch} {G : gG} {adr : Nat → Nat} {sz : Nat} (hi : adi adr) {n : Nat} {a0 : Int32} {a1 : Int32} {a2 : Int32} {M M' : Mem} {r : Int32} (h : f_X8_value n a0 a1 a2 M = some (r, M')) : mI l yX8_value cX8_value 7 (some .int) { frames := 1, cells := 0, slots := 0, locals := 20 } G adr [.ref (adr 36), .int a0, .int a1, .int a2] M sz r M' := by
  refine wEnter (by decide) (Nat.le_of_ble_eq_true rfl) ?_
  intro p e s m below meth c ls cx hinit hl hsz hw
  exact b_X8_value cx hi h (fun pc ls H locs hd hw => w_iret (post := fun (r9 : Int32) (u : Mem) => r9 = r ∧ u = M') (lf := fun u => (LL adr, wf G adr u)) cx.1 cx.2.1 cx.2.2.1 cx.2.2.2.2.2.2 M' hw ⟨rfl, rfl⟩ hd) hl hw
def f_X8_count (M : Mem) : Option (Int32 × Mem) :=
  Option.bind (ptI M 36 3 (0 : Int32)) fun v1 =>
  some (v1.2 36 2, v1)
set_option maxRecDepth 100000 in
set_option maxHeartbeats 8000000 in
theorem b_X8_count {p : Program} {l : Launch} {e : Env} {s : State} {m : MethodId} {args : Array Value} {below : List Frame} {meth : Method} {c : Code} {Q : State → Prop} {G : gG} {A : Nat → Prop} {adr : Nat → Nat} (cx : cX p s m args meth c cX8_count (some .int) 1 yX8_count.cls) (hi : adi adr) {M M' : Mem} {r : Int32} 
    (h : f_X8_count M = some (r, M'))
    (kr : ∀ (pc : Nat) (ls : Array Slot) (H : Heap) (locs : List Loc), decode cX8_count pc = .ok (.ireturn, 1) → wH G A s.heap s (LL adr) (wf G adr M') H locs → W p l e { frames := 0, cells := 0, slots := 0, locals := 0 } s m args below meth c H locs 0 0 Q (F0 m pc ls [.int r]))
    {ls : Array Slot} {H : Heap} {locs : List Loc} (hl : lv_has ls 1 [(0, .ref (adr 36))]) (hw : wH G A s.heap s (LL adr) (wf G adr M) H locs) : W p l e { frames := 0, cells := 0, slots := 0, locals := 0 } s m args below meth c H locs 0 0 Q (F0 m 0 ls []) := by
  obtain ⟨hx, hb, -, -, hown, hts, -⟩ := id cx
  have hown : s.vm.findClass RX8 = some m.cls := hown
  unfold f_X8_count at h
  refine lv_aload_n hx hb dX8_count_0 rfl (lv_at hl 0 rfl) ?_
  refine lv_iconst (v := (0 : Int32)) hx hb dX8_count_1 (by decide) ?_
  replace h := bnd h
  obtain ⟨v1, e1, h⟩ := h
  obtain rfl := pt_s e1
  refine m_putI (k := 36) (C := RX8) (T := TX8) (N := 18) (ref := "LiftFactorsModel") hx hb hi hts inX8_u tyX8 tyX8_ok nmX8 hown hw (by decide) rfl 3 (by decide) q_171 rfl rfl (by decide +kernel) rfl dX8_count_2 (fun H locs hw => ?_)
  obtain ⟨v1, e1⟩ : ∃ z9, z9 = sI M 36 3 (0 : Int32) := ⟨_, rfl⟩
  rw [← e1] at h hw
  refine lv_aload_n hx hb dX8_count_5 rfl (lv_at hl 0 rfl) ?_
  refine m_get (k := 36) (C := RX8) (T := TX8) (N := 18) (ref := "LiftFactorsModel") (v := .int (v1.2 36 2)) hx hb hi hts inX8_u hown hw (by decide) rfl 2 (by decide) q_16 rfl rfl dX8_count_6 ?_
  cases h
  exact kr _ _ _ _ dX8_count_9 hw
theorem cc_X8_count {l : Launch} {G : gG} {adr : Nat → Nat} {sz : Nat} (hi : adi adr) {M M' : Mem} {r : Int32} (h : f_X8_count M = some (r, M')) : mI l yX8_count cX8_count 1 (some .int) { frames := 0, cells := 0, slots := 0, locals := 0 } G adr [.ref (adr 36)] M sz r M' := by
  refine wEnter (by decide) (Nat.le_of_ble_eq_true rfl) ?_
  intro p e s m below meth c ls cx hinit hl hsz hw
  exact b_X8_count cx hi h (fun pc ls H locs hd hw => w_iret (post := fun (r9 : Int32) (u : Mem) => r9 = r ∧ u = M') (lf := fun u => (LL adr, wf G adr u)) cx.1 cx.2.1 cx.2.2.1 cx.2.2.2.2.2.2 M' hw ⟨rfl, rfl⟩ hd) hl hw
def f_X8_thrown (M : Mem) : Option Int32 :=
  some (M.2 36 3)
set_option maxRecDepth 100000 in
set_option maxHeartbeats 8000000 in
theorem b_X8_thrown {p : Program} {l : Launch} {e : Env} {s : State} {m : MethodId} {args : Array Value} {below : List Frame} {meth : Method} {c : Code} {Q : State → Prop} {G : gG} {A : Nat → Prop} {adr : Nat → Nat} (cx : cX p s m args meth c cX8_thrown (some .int) 1 yX8_thrown.cls) (hi : adi adr) {M : Mem} {r : Int32} 
    (h : f_X8_thrown M = some r)
    (kr : ∀ (pc : Nat) (ls : Array Slot) (H : Heap) (locs : List Loc), decode cX8_thrown pc = .ok (.ireturn, 1) → wH G A s.heap s (LL adr) (wf G adr M) H locs → W p l e { frames := 0, cells := 0, slots := 0, locals := 0 } s m args below meth c H locs 0 0 Q (F0 m pc ls [.int r]))
    {ls : Array Slot} {H : Heap} {locs : List Loc} (hl : lv_has ls 1 [(0, .ref (adr 36))]) (hw : wH G A s.heap s (LL adr) (wf G adr M) H locs) : W p l e { frames := 0, cells := 0, slots := 0, locals := 0 } s m args below meth c H locs 0 0 Q (F0 m 0 ls []) := by
  obtain ⟨hx, hb, -, -, hown, hts, -⟩ := id cx
  have hown : s.vm.findClass RX8 = some m.cls := hown
  unfold f_X8_thrown at h
  refine lv_aload_n hx hb dX8_thrown_0 rfl (lv_at hl 0 rfl) ?_
  refine m_get (k := 36) (C := RX8) (T := TX8) (N := 18) (ref := "LiftFactorsModel") (v := .int (M.2 36 3)) hx hb hi hts inX8_u hown hw (by decide) rfl 3 (by decide) q_171 rfl rfl dX8_thrown_1 ?_
  cases h
  exact kr _ _ _ _ dX8_thrown_4 hw
theorem cc_X8_thrown {l : Launch} {G : gG} {adr : Nat → Nat} {sz : Nat} (hi : adi adr) {M : Mem} {r : Int32} (h : f_X8_thrown M = some r) : mI l yX8_thrown cX8_thrown 1 (some .int) { frames := 0, cells := 0, slots := 0, locals := 0 } G adr [.ref (adr 36)] M sz r M := by
  refine wEnter (by decide) (Nat.le_of_ble_eq_true rfl) ?_
  intro p e s m below meth c ls cx hinit hl hsz hw
  exact b_X8_thrown cx hi h (fun pc ls H locs hd hw => w_iret (post := fun (r9 : Int32) (u : Mem) => r9 = r ∧ u = M) (lf := fun u => (LL adr, wf G adr u)) cx.1 cx.2.1 cx.2.2.1 cx.2.2.2.2.2.2 M hw ⟨rfl, rfl⟩ hd) hl hw
