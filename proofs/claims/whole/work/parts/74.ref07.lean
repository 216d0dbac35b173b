theorem q_210 : Cond.methodLink RX8 208 yX8_isPower ∈ uU := uU_in (by decide +kernel) (by decide +kernel)
theorem q_211 : Cond.static yX8_isPower ∈ uU := uU_in (by decide +kernel) (by decide +kernel)
theorem q_212 : Cond.initialized yX8_isPower.cls ∈ uU := uU_in (by decide +kernel) (by decide +kernel)
theorem q_213 : Cond.code yX8_isPower cX8_isPower 1 (some .boolean) ∈ uU := uU_in (by decide +kernel) (by decide +kernel)
def f_X8_set (a0 : Int) (a1 : Int) (a2 : Int) (M : MI) : Option (Int × MI) :=
  Option.bind (f_X8_isPoly a0) fun v1 =>
  Option.bind (
    Option.bind (gI v1 0) fun _ =>
    if v1 = 0 then
      some (1)
    else
      Option.bind (f_X8_isPower a1) fun v2 =>
      Option.bind (gI v2 0) fun _ =>
      if v2 = 0 then
        some (1)
      else
        Option.bind (gI a2 (-9999)) fun _ =>
        if a2 < (-9999) then
          some (2)
        else
          Option.bind (gI a2 (9999)) fun _ =>
          if a2 ≤ (9999) then
            some (0)
          else
            some (2)) fun v3 =>
  Option.bind (opI M 36 3 v3) fun v4 =>
  Option.bind (gI (v4.2 36 3) 0) fun _ =>
  if (v4.2 36 3) = 0 then
    Option.bind (odI v4 38 (((11) * a0) + a1)) fun v5 =>
    Option.bind (
      Option.bind (gI v5 a2) fun _ =>
      if v5 = a2 then
        some (0)
      else
        some (1)) fun v6 =>
    Option.bind (osI v4 38 (((11) * a0) + a1) a2) fun v7 =>
    Option.bind (obz v6) fun v8 =>
    some (v8, v7)
  else
    some ((0), v4)
set_option maxRecDepth 100000 in
set_option maxHeartbeats 8000000 in
theorem b_X8_set {p : Program} {l : Launch} {e : Env} {s : State} {m : MethodId} {args : Array Value} {below : List Frame} {meth : Method} {c : Code} {Q : State → Prop} {G : gG} {A : Nat → Prop} {adr : Nat → Nat} (cx : cX p s m args meth c cX8_set (some .boolean) 5 yX8_set.cls) (hi : adi adr) {a0 : Int} {a1 : Int} {a2 : Int} {M M' : MI} {r : Int} 
    (h : f_X8_set a0 a1 a2 M = some (r, M'))
    (kr : ∀ (pc : Nat) (ls : Array Slot) (H : Heap) (locs : List Loc), decode cX8_set pc = .ok (.ireturn, 1) → narrow .boolean (.int (Int32.ofInt r)) = .int (Int32.ofInt r) → wH G A s.heap s (LL adr) (wf G adr (tm M')) H locs → W p l e { frames := 1, cells := 0, slots := 0, locals := 20 } s m args below meth c H locs 0 0 Q (F0 m pc ls [.int (Int32.ofInt r)]))
    {ls : Array Slot} {H : Heap} {locs : List Loc} (hl : lv_has ls 5 [(0, .ref (adr 36)), (1, .int (Int32.ofInt a0)), (2, .int (Int32.ofInt a1)), (3, .int (Int32.ofInt a2))]) (hw : wH G A s.heap s (LL adr) (wf G adr (tm M)) H locs) : W p l e { frames := 1, cells := 0, slots := 0, locals := 20 } s m args below meth c H locs 0 0 Q (F0 m 0 ls []) := by
  obtain ⟨hx, hb, -, -, hown, hts, -⟩ := id cx
  have hown : s.vm.findClass RX8 = some m.cls := hown
  unfold f_X8_set at h
  refine lv_aload_n hx hb dX8_set_0 rfl (lv_at hl 0 rfl) ?_
  refine lv_iload_n hx hb dX8_set_1 rfl (lv_at hl 1 rfl) ?_
  replace h := bnd h
  obtain ⟨v1, e1, h⟩ := h
  refine m_callSi (As := [.int (Int32.ofInt a0)]) (rest := [.ref (adr 36)]) cx.fix hw (cc_X8_isPoly (l := l) (G := G) (sz := H.size) (M := M) hi e1) (w_cS 1 hts q_167 q_168 q_169 q_170 rfl rfl (by decide) (by decide)) hl.1 rfl (lv_room (Nat.le_of_ble_eq_true rfl)) dX8_set_2 (fun H locs hw => ?_)
  replace h := bnd h
  obtain ⟨v3, j10, h⟩ := h
  have kj : ∀ (ls : Array Slot) (H : Heap) (locs : List Loc), lv_has ls 5 [(0, .ref (adr 36)), (1, .int (Int32.ofInt a0)), (2, .int (Int32.ofInt a1)), (3, .int (Int32.ofInt a2))] → wH G A s.heap s (LL adr) (wf G adr (tm M)) H locs → W p l e { frames := 1, cells := 0, slots := 0, locals := 20 } s m args below meth c H locs 0 0 Q (F0 m 38 ls [.int (Int32.ofInt v3), .ref (adr 36)]) := by
    intro ls H locs hl hw
    replace h := bnd h
    obtain ⟨v4, e4, h⟩ := h
    refine o_putI (k := 36) (C := RX8) (T := TX8) (N := 18) (ref := "LiftFactorsModel") hx hb hi hts inX8_u tyX8 tyX8_ok nmX8 hown hw (by decide) rfl 3 (by decide) q_171 rfl rfl e4 (by decide +kernel) rfl dX8_set_38 (fun H locs hw => ?_)
    refine lv_aload_n hx hb dX8_set_41 rfl (lv_at hl 0 rfl) ?_
    refine m_get (k := 36) (C := RX8) (T := TX8) (N := 18) (ref := "LiftFactorsModel") (v := .int (Int32.ofInt (v4.2 36 3))) hx hb hi hts inX8_u hown hw (by decide) rfl 3 (by decide) q_171 rfl rfl dX8_set_42 ?_
    replace h := bnd h
    obtain ⟨_, hg, h⟩ := h
    refine o_if_eq (tgt := 50) hx hb hg dX8_set_45 (by decide) (fun hc => ?_) (fun hc => ?_)
    · replace h := ite_t hc h
      refine lv_aload_n hx hb dX8_set_50 rfl (lv_at hl 0 rfl) ?_
      refine m_get (k := 36) (C := RX8) (T := TX8) (N := 18) (ref := "LiftFactorsModel") (v := .ref (adr 38)) hx hb hi hts inX8_u hown hw (by decide) rfl 1 (by decide) q_10 rfl rfl dX8_set_51 ?_
      refine lv_bipush (v := Int32.ofInt (11)) hx hb dX8_set_54 rfl ?_
      refine lv_iload_n hx hb dX8_set_56 rfl (lv_at hl 1 rfl) ?_
      refine o_imul hx hb dX8_set_57 ?_
      refine lv_iload_n hx hb dX8_set_58 rfl (lv_at hl 2 rfl) ?_
      refine o_iadd hx hb dX8_set_59 ?_
      replace h := bnd h
      obtain ⟨v5, e5, h⟩ := h
      refine o_iald hx hb hi hw e5 dX8_set_60 ?_
      refine lv_iload_n hx hb dX8_set_61 rfl (lv_at hl 3 rfl) ?_
      replace h := bnd h
      obtain ⟨v6, j9, h⟩ := h
      have kj : ∀ (ls : Array Slot) (H : Heap) (locs : List Loc), lv_has ls 5 [(0, .ref (adr 36)), (1, .int (Int32.ofInt a0)), (2, .int (Int32.ofInt a1)), (3, .int (Int32.ofInt a2))] → wH G A s.heap s (LL adr) (wf G adr (tm v4)) H locs → W p l e { frames := 1, cells := 0, slots := 0, locals := 20 } s m args below meth c H locs 0 0 Q (F0 m 70 ls [.int (Int32.ofInt v6)]) := by
        intro ls H locs hl hw
        refine lv_istore (lv' := [(4, .int (Int32.ofInt v6)), (0, .ref (adr 36)), (1, .int (Int32.ofInt a0)), (2, .int (Int32.ofInt a1)), (3, .int (Int32.ofInt a2))]) hx hb dX8_set_70 hl (by decide) rfl (fun ls hl => ?_)
        refine lv_aload_n hx hb dX8_set_72 rfl (lv_at hl 1 rfl) ?_
        refine m_get (k := 36) (C := RX8) (T := TX8) (N := 18) (ref := "LiftFactorsModel") (v := .ref (adr 38)) hx hb hi hts inX8_u hown hw (by decide) rfl 1 (by decide) q_10 rfl rfl dX8_set_73 ?_
        refine lv_bipush (v := Int32.ofInt (11)) hx hb dX8_set_76 rfl ?_
        refine lv_iload_n hx hb dX8_set_78 rfl (lv_at hl 2 rfl) ?_
        refine o_imul hx hb dX8_set_79 ?_
        refine lv_iload_n hx hb dX8_set_80 rfl (lv_at hl 3 rfl) ?_
        refine o_iadd hx hb dX8_set_81 ?_
        refine lv_iload_n hx hb dX8_set_82 rfl (lv_at hl 4 rfl) ?_
        replace h := bnd h
        obtain ⟨v7, e7, h⟩ := h
        refine o_iast hx hb hi hw e7 dX8_set_83 (fun H locs hw => ?_)
        refine lv_iload hx hb dX8_set_84 (lv_at hl 0 rfl) ?_
        replace h := bnd h
        obtain ⟨v8, eZ, h⟩ := h
        obtain ⟨rfl, eZ⟩ := obz_ok eZ
        cases h
        exact kr _ _ _ _ dX8_set_86 eZ hw
      clear h
      replace h := j9
      clear j9
      replace h := bnd h
      obtain ⟨_, hg, h⟩ := h
      refine o_icmp_eq (tgt := 69) hx hb hg dX8_set_62 (by decide) (fun hc => ?_) (fun hc => ?_)
      · replace h := ite_t hc h
        refine lv_iconst (v := Int32.ofInt (0)) hx hb dX8_set_69 rfl ?_
        cases h
        exact kj _ _ _ (lv_sub hl [0, 1, 2, 3] rfl) hw
      · replace h := ite_f hc h
        refine lv_iconst (v := Int32.ofInt (1)) hx hb dX8_set_65 rfl ?_
        refine lv_goto (tgt := 70) hx hb dX8_set_66 (by decide) ?_
        cases h
        exact kj _ _ _ (lv_sub hl [0, 1, 2, 3] rfl) hw
    · replace h := ite_f hc h
      refine lv_iconst (v := Int32.ofInt (0)) hx hb dX8_set_48 rfl ?_
      cases h
      exact kr _ _ _ _ dX8_set_49 nb0 hw
  clear h
  replace h := j10
  clear j10
  replace h := bnd h
  obtain ⟨_, hg, h⟩ := h
  refine o_if_eq (tgt := 15) hx hb hg dX8_set_5 (by decide) (fun hc => ?_) (fun hc => ?_)
  · replace h := ite_t hc h
    refine lv_iconst (v := Int32.ofInt (1)) hx hb dX8_set_15 rfl ?_
    refine lv_goto (tgt := 38) hx hb dX8_set_16 (by decide) ?_
    cases h
    exact kj _ _ _ (lv_sub hl [0, 1, 2, 3] rfl) hw
  · replace h := ite_f hc h
    refine lv_iload_n hx hb dX8_set_8 rfl (lv_at hl 2 rfl) ?_
    replace h := bnd h
    obtain ⟨v2, e2, h⟩ := h
    refine m_callSi (As := [.int (Int32.ofInt a1)]) (rest := [.ref (adr 36)]) cx.fix hw (cc_X8_isPower (l := l) (G := G) (sz := H.size) (M := M) hi e2) (w_cS 1 hts q_210 q_211 q_212 q_213 rfl rfl (by decide) (by decide)) hl.1 rfl (lv_room (Nat.le_of_ble_eq_true rfl)) dX8_set_9 (fun H locs hw => ?_)
    replace h := bnd h
    obtain ⟨_, hg, h⟩ := h
    refine o_if_ne (tgt := 19) hx hb hg dX8_set_12 (by decide) (fun hc => ?_) (fun hc => ?_)
    · replace h := ite_f hc h
      refine lv_iload_n hx hb dX8_set_19 rfl (lv_at hl 3 rfl) ?_
      refine lv_sipush (v := Int32.ofInt (-9999)) hx hb dX8_set_20 rfl ?_
      replace h := bnd h
      obtain ⟨_, hg, h⟩ := h
      refine o_icmp_lt (tgt := 33) hx hb hg dX8_set_23 (by decide) (fun hc => ?_) (fun hc => ?_)
      · replace h := ite_t hc h
        refine lv_iconst (v := Int32.ofInt (2)) hx hb dX8_set_33 rfl ?_
        refine lv_goto (tgt := 38) hx hb dX8_set_34 (by decide) ?_
        cases h
        exact kj _ _ _ (lv_sub hl [0, 1, 2, 3] rfl) hw
      · replace h := ite_f hc h
        refine lv_iload_n hx hb dX8_set_26 rfl (lv_at hl 3 rfl) ?_
        refine lv_sipush (v := Int32.ofInt (9999)) hx hb dX8_set_27 rfl ?_
        replace h := bnd h
        obtain ⟨_, hg, h⟩ := h
        refine o_icmp_le (tgt := 37) hx hb hg dX8_set_30 (by decide) (fun hc => ?_) (fun hc => ?_)
        · replace h := ite_t hc h
          refine lv_iconst (v := Int32.ofInt (0)) hx hb dX8_set_37 rfl ?_
          cases h
          exact kj _ _ _ (lv_sub hl [0, 1, 2, 3] rfl) hw
        · replace h := ite_f hc h
          refine lv_iconst (v := Int32.ofInt (2)) hx hb dX8_set_33 rfl ?_
          refine lv_goto (tgt := 38) hx hb dX8_set_34 (by decide) ?_
          cases h
          exact kj _ _ _ (lv_sub hl [0, 1, 2, 3] rfl) hw
    · replace h := ite_t hc h
      refine lv_iconst (v := Int32.ofInt (1)) hx hb dX8_set_15 rfl ?_
      refine lv_goto (tgt := 38) hx hb dX8_set_16 (by decide) ?_
      cases h
      exact kj _ _ _ (lv_sub hl [0, 1, 2, 3] rfl) hw
theorem cc_X8_set {l : Launch} {G : gG} {adr : Nat → Nat} {sz : Nat} (hi : adi adr) {a0 : Int} {a1 : Int} {a2 : Int} {M M' : MI} {r : Int} (h : f_X8_set a0 a1 a2 M = some (r, M')) : mI l yX8_set cX8_set 5 (some .boolean) { frames := 1, cells := 0, slots := 0, locals := 20 } G adr [.ref (adr 36), .int (Int32.ofInt a0), .int (Int32.ofInt a1), .int (Int32.ofInt a2)] (tm M) sz (Int32.ofInt r) (tm M') := by
  refine wEnter (by decide) (Nat.le_of_ble_eq_true rfl) ?_
  intro p e s m below meth c ls cx hinit hl hsz hw
  exact b_X8_set cx hi h (fun pc ls H locs hd hz hw => w_zret (post := fun (r9 : Int32) (u : Mem) => r9 = Int32.ofInt r ∧ u = tm M') (lf := fun u => (LL adr, wf G adr u)) cx.1 cx.2.1 cx.2.2.1 cx.2.2.2.2.2.2 hz (tm M') hw ⟨rfl, rfl⟩ hd) hl hw
def f_X8_at (a0 : Int) (a1 : Int) (M : MI) : Option (Int × MI) :=
  Option.bind (f_X8_isPoly a0) fun v1 =>
  Option.bind (
    Option.bind (gI v1 0) fun _ =>
    if v1 = 0 then
      some (1)
    else
      Option.bind (f_X8_isPower a1) fun v2 =>
      Option.bind (gI v2 0) fun _ =>
      if v2 = 0 then
        some (1)
      else
        some (0)) fun v3 =>
  Option.bind (opI M 36 3 v3) fun v4 =>
  Option.bind (
    Option.bind (gI (v4.2 36 3) 0) fun _ =>
    if (v4.2 36 3) = 0 then
      Option.bind (odI v4 38 (((11) * a0) + a1)) fun v5 =>
      some v5
    else
      some (0)) fun v6 =>
  some (v6, v4)
set_option maxRecDepth 100000 in
set_option maxHeartbeats 8000000 in
theorem b_X8_at {p : Program} {l : Launch} {e : Env} {s : State} {m : MethodId} {args : Array Value} {below : List Frame} {meth : Method} {c : Code} {Q : State → Prop} {G : gG} {A : Nat → Prop} {adr : Nat → Nat} (cx : cX p s m args meth c cX8_at (some .int) 3 yX8_at.cls) (hi : adi adr) {a0 : Int} {a1 : Int} {M M' : MI} {r : Int} 
    (h : f_X8_at a0 a1 M = some (r, M'))
    (kr : ∀ (pc : Nat) (ls : Array Slot) (H : Heap) (locs : List Loc), decode cX8_at pc = .ok (.ireturn, 1) → wH G A s.heap s (LL adr) (wf G adr (tm M')) H locs → W p l e { frames := 1, cells := 0, slots := 0, locals := 20 } s m args below meth c H locs 0 0 Q (F0 m pc ls [.int (Int32.ofInt r)]))
    {ls : Array Slot} {H : Heap} {locs : List Loc} (hl : lv_has ls 3 [(0, .ref (adr 36)), (1, .int (Int32.ofInt a0)), (2, .int (Int32.ofInt a1))]) (hw : wH G A s.heap s (LL adr) (wf G adr (tm M)) H locs) : W p l e { frames := 1, cells := 0, slots := 0, locals := 20 } s m args below meth c H locs 0 0 Q (F0 m 0 ls []) := by
  obtain ⟨hx, hb, -, -, hown, hts, -⟩ := id cx
  have hown : s.vm.findClass RX8 = some m.cls := hown
  unfold f_X8_at at h
  refine lv_aload_n hx hb dX8_at_0 rfl (lv_at hl 0 rfl) ?_
  refine lv_iload_n hx hb dX8_at_1 rfl (lv_at hl 1 rfl) ?_
  replace h := bnd h
  obtain ⟨v1, e1, h⟩ := h
  refine m_callSi (As := [.int (Int32.ofInt a0)]) (rest := [.ref (adr 36)]) cx.fix hw (cc_X8_isPoly (l := l) (G := G) (sz := H.size) (M := M) hi e1) (w_cS 1 hts q_167 q_168 q_169 q_170 rfl rfl (by decide) (by decide)) hl.1 rfl (lv_room (Nat.le_of_ble_eq_true rfl)) dX8_at_2 (fun H locs hw => ?_)
  replace h := bnd h
  obtain ⟨v3, j8, h⟩ := h
  have kj : ∀ (ls : Array Slot) (H : Heap) (locs : List Loc), lv_has ls 3 [(0, .ref (adr 36)), (1, .int (Int32.ofInt a0)), (2, .int (Int32.ofInt a1))] → wH G A s.heap s (LL adr) (wf G adr (tm M)) H locs → W p l e { frames := 1, cells := 0, slots := 0, locals := 20 } s m args below meth c H locs 0 0 Q (F0 m 20 ls [.int (Int32.ofInt v3), .ref (adr 36)]) := by
    intro ls H locs hl hw
    replace h := bnd h
    obtain ⟨v4, e4, h⟩ := h
    refine o_putI (k := 36) (C := RX8) (T := TX8) (N := 18) (ref := "LiftFactorsModel") hx hb hi hts inX8_u tyX8 tyX8_ok nmX8 hown hw (by decide) rfl 3 (by decide) q_171 rfl rfl e4 (by decide +kernel) rfl dX8_at_20 (fun H locs hw => ?_)
    refine lv_aload_n hx hb dX8_at_23 rfl (lv_at hl 0 rfl) ?_
    refine m_get (k := 36) (C := RX8) (T := TX8) (N := 18) (ref := "LiftFactorsModel") (v := .int (Int32.ofInt (v4.2 36 3))) hx hb hi hts inX8_u hown hw (by decide) rfl 3 (by decide) q_171 rfl rfl dX8_at_24 ?_
    replace h := bnd h
    obtain ⟨v6, j7, h⟩ := h
    have kj : ∀ (ls : Array Slot) (H : Heap) (locs : List Loc), lv_has ls 3 [] → wH G A s.heap s (LL adr) (wf G adr (tm v4)) H locs → W p l e { frames := 1, cells := 0, slots := 0, locals := 20 } s m args below meth c H locs 0 0 Q (F0 m 45 ls [.int (Int32.ofInt v6)]) := by
      intro ls H locs hl hw
      cases h
      exact kr _ _ _ _ dX8_at_45 hw
    clear h
    replace h := j7
    clear j7
    replace h := bnd h
    obtain ⟨_, hg, h⟩ := h
    refine o_if_eq (tgt := 34) hx hb hg dX8_at_27 (by decide) (fun hc => ?_) (fun hc => ?_)
    · replace h := ite_t hc h
      refine lv_aload_n hx hb dX8_at_34 rfl (lv_at hl 0 rfl) ?_
      refine m_get (k := 36) (C := RX8) (T := TX8) (N := 18) (ref := "LiftFactorsModel") (v := .ref (adr 38)) hx hb hi hts inX8_u hown hw (by decide) rfl 1 (by decide) q_10 rfl rfl dX8_at_35 ?_
      refine lv_bipush (v := Int32.ofInt (11)) hx hb dX8_at_38 rfl ?_
      refine lv_iload_n hx hb dX8_at_40 rfl (lv_at hl 1 rfl) ?_
      refine o_imul hx hb dX8_at_41 ?_
      refine lv_iload_n hx hb dX8_at_42 rfl (lv_at hl 2 rfl) ?_
      refine o_iadd hx hb dX8_at_43 ?_
      replace h := bnd h
      obtain ⟨v5, e5, h⟩ := h
      refine o_iald hx hb hi hw e5 dX8_at_44 ?_
      cases h
      exact kj _ _ _ (lv_sub hl [] rfl) hw
    · replace h := ite_f hc h
      refine lv_iconst (v := Int32.ofInt (0)) hx hb dX8_at_30 rfl ?_
      refine lv_goto (tgt := 45) hx hb dX8_at_31 (by decide) ?_
      cases h
      exact kj _ _ _ (lv_sub hl [] rfl) hw
  clear h
  replace h := j8
  clear j8
  replace h := bnd h
  obtain ⟨_, hg, h⟩ := h
  refine o_if_eq (tgt := 19) hx hb hg dX8_at_5 (by decide) (fun hc => ?_) (fun hc => ?_)
  · replace h := ite_t hc h
    refine lv_iconst (v := Int32.ofInt (1)) hx hb dX8_at_19 rfl ?_
    cases h
    exact kj _ _ _ (lv_sub hl [0, 1, 2] rfl) hw
  · replace h := ite_f hc h
    refine lv_iload_n hx hb dX8_at_8 rfl (lv_at hl 2 rfl) ?_
    replace h := bnd h
    obtain ⟨v2, e2, h⟩ := h
    refine m_callSi (As := [.int (Int32.ofInt a1)]) (rest := [.ref (adr 36)]) cx.fix hw (cc_X8_isPower (l := l) (G := G) (sz := H.size) (M := M) hi e2) (w_cS 1 hts q_210 q_211 q_212 q_213 rfl rfl (by decide) (by decide)) hl.1 rfl (lv_room (Nat.le_of_ble_eq_true rfl)) dX8_at_9 (fun H locs hw => ?_)
    replace h := bnd h
    obtain ⟨_, hg, h⟩ := h
    refine o_if_eq (tgt := 19) hx hb hg dX8_at_12 (by decide) (fun hc => ?_) (fun hc => ?_)
    · replace h := ite_t hc h
      refine lv_iconst (v := Int32.ofInt (1)) hx hb dX8_at_19 rfl ?_
      cases h
      exact kj _ _ _ (lv_sub hl [0, 1, 2] rfl) hw
    · replace h := ite_f hc h
      refine lv_iconst (v := Int32.ofInt (0)) hx hb dX8_at_15 rfl ?_
      refine lv_goto (tgt := 20) hx hb dX8_at_16 (by decide) ?_
      cases h
      exact kj _ _ _ (lv_sub hl [0, 1, 2] rfl) hw
theorem cc_X8_at {l : Launch} {G : gG} {adr : Nat → Nat} {sz : Nat} (hi : adi adr) {a0 : Int} {a1 : Int} {M M' : MI} {r : Int} (h : f_X8_at a0 a1 M = some (r, M')) : mI l yX8_at cX8_at 3 (some .int) { frames := 1, cells := 0, slots := 0, locals := 20 } G adr [.ref (adr 36), .int (Int32.ofInt a0), .int (Int32.ofInt a1)] (tm M) sz (Int32.ofInt r) (tm M') := by
  refine wEnter (by decide) (Nat.le_of_ble_eq_true rfl) ?_
  intro p e s m below meth c ls cx hinit hl hsz hw
  exact b_X8_at cx hi h (fun pc ls H locs hd hw => w_iret (post := fun (r9 : Int32) (u : Mem) => r9 = Int32.ofInt r ∧ u = tm M') (lf := fun u => (LL adr, wf G adr u)) cx.1 cx.2.1 cx.2.2.1 cx.2.2.2.2.2.2 (tm M') hw ⟨rfl, rfl⟩ hd) hl hw
def f_X8_refuses (n : Nat) (a0 : Int) (a1 : Int) (M : MI) : Option (Int × MI) :=
  Option.bind (f_X8_isPoly a0) fun v1 =>
  Option.bind (
    Option.bind (gI v1 0) fun _ =>
    if v1 = 0 then
      some (1)
    else
      Option.bind (f_X8_isPoly a1) fun v2 =>
      Option.bind (gI v2 0) fun _ =>
      if v2 = 0 then
        some (1)
      else
        Option.bind (gI (M.2 36 2) (80)) fun _ =>
        if (M.2 36 2) = (80) then
          some (2)
        else
          some (0)) fun v3 =>
  Option.bind (opI M 36 3 v3) fun v4 =>
  Option.bind (gI (v4.2 36 3) 0) fun _ =>
  if (v4.2 36 3) = 0 then
    Option.bind (f_X8_load n a0 (0) v4) fun v5 =>
    Option.bind (f_X8_load n a1 (1) v5) fun v6 =>
    some ((0), v6)
  else
    some ((1), v4)
set_option maxRecDepth 100000 in
set_option maxHeartbeats 8000000 in
theorem b_X8_refuses {p : Program} {l : Launch} {e : Env} {s : State} {m : MethodId} {args : Array Value} {below : List Frame} {meth : Method} {c : Code} {Q : State → Prop} {G : gG} {A : Nat → Prop} {adr : Nat → Nat} (cx : cX p s m args meth c cX8_refuses (some .boolean) 3 yX8_refuses.cls) (hi : adi adr) {n : Nat} {a0 : Int} {a1 : Int} {M M' : MI} {r : Int} 
    (h : f_X8_refuses n a0 a1 M = some (r, M'))
    (kr : ∀ (pc : Nat) (ls : Array Slot) (H : Heap) (locs : List Loc), decode cX8_refuses pc = .ok (.ireturn, 1) → narrow .boolean (.int (Int32.ofInt r)) = .int (Int32.ofInt r) → wH G A s.heap s (LL adr) (wf G adr (tm M')) H locs → W p l e { frames := 2, cells := 0, slots := 0, locals := 46 } s m args below meth c H locs 0 0 Q (F0 m pc ls [.int (Int32.ofInt r)]))
    {ls : Array Slot} {H : Heap} {locs : List Loc} (hl : lv_has ls 3 [(0, .ref (adr 36)), (1, .int (Int32.ofInt a0)), (2, .int (Int32.ofInt a1))]) (hw : wH G A s.heap s (LL adr) (wf G adr (tm M)) H locs) : W p l e { frames := 2, cells := 0, slots := 0, locals := 46 } s m args below meth c H locs 0 0 Q (F0 m 0 ls []) := by
  obtain ⟨hx, hb, -, -, hown, hts, -⟩ := id cx
  have hown : s.vm.findClass RX8 = some m.cls := hown
  unfold f_X8_refuses at h
  refine lv_aload_n hx hb dX8_refuses_0 rfl (lv_at hl 0 rfl) ?_
  refine lv_iload_n hx hb dX8_refuses_1 rfl (lv_at hl 1 rfl) ?_
  replace h := bnd h
  obtain ⟨v1, e1, h⟩ := h
  refine m_callSi (As := [.int (Int32.ofInt a0)]) (rest := [.ref (adr 36)]) cx.fix hw (cc_X8_isPoly (l := l) (G := G) (sz := H.size) (M := M) hi e1) (w_cS 1 hts q_167 q_168 q_169 q_170 rfl rfl (by decide) (by decide)) hl.1 rfl (lv_room (Nat.le_of_ble_eq_true rfl)) dX8_refuses_2 (fun H locs hw => ?_)
  replace h := bnd h
  obtain ⟨v3, j7, h⟩ := h
  have kj : ∀ (ls : Array Slot) (H : Heap) (locs : List Loc), lv_has ls 3 [(0, .ref (adr 36)), (1, .int (Int32.ofInt a0)), (2, .int (Int32.ofInt a1))] → wH G A s.heap s (LL adr) (wf G adr (tm M)) H locs → W p l e { frames := 2, cells := 0, slots := 0, locals := 46 } s m args below meth c H locs 0 0 Q (F0 m 33 ls [.int (Int32.ofInt v3), .ref (adr 36)]) := by
    intro ls H locs hl hw
    replace h := bnd h
    obtain ⟨v4, e4, h⟩ := h
    refine o_putI (k := 36) (C := RX8) (T := TX8) (N := 18) (ref := "LiftFactorsModel") hx hb hi hts inX8_u tyX8 tyX8_ok nmX8 hown hw (by decide) rfl 3 (by decide) q_171 rfl rfl e4 (by decide +kernel) rfl dX8_refuses_33 (fun H locs hw => ?_)
    refine lv_aload_n hx hb dX8_refuses_36 rfl (lv_at hl 0 rfl) ?_
    refine m_get (k := 36) (C := RX8) (T := TX8) (N := 18) (ref := "LiftFactorsModel") (v := .int (Int32.ofInt (v4.2 36 3))) hx hb hi hts inX8_u hown hw (by decide) rfl 3 (by decide) q_171 rfl rfl dX8_refuses_37 ?_
    replace h := bnd h
    obtain ⟨_, hg, h⟩ := h
    refine o_if_eq (tgt := 45) hx hb hg dX8_refuses_40 (by decide) (fun hc => ?_) (fun hc => ?_)
    · replace h := ite_t hc h
      refine lv_aload_n hx hb dX8_refuses_45 rfl (lv_at hl 0 rfl) ?_
      refine lv_iload_n hx hb dX8_refuses_46 rfl (lv_at hl 1 rfl) ?_
      refine lv_iconst (v := Int32.ofInt (0)) hx hb dX8_refuses_47 rfl ?_
      replace h := bnd h
      obtain ⟨v5, e5, h⟩ := h
      refine m_callVv (k := 36) (As := [.int (Int32.ofInt a0), .int (Int32.ofInt (0))]) (rest := []) cx.fix hi hw (cc_X8_load (l := l) (G := G) (sz := H.size) hi e5) (by decide) rfl rfl (w_cV 2 hts q_172 q_173 q_174 q_175 q_176 rfl rfl (by decide) (by decide)) hl.1 rfl (lv_room (Nat.le_of_ble_eq_true rfl)) dX8_refuses_48 (fun H locs hw => ?_)
      refine lv_aload_n hx hb dX8_refuses_51 rfl (lv_at hl 0 rfl) ?_
      refine lv_iload_n hx hb dX8_refuses_52 rfl (lv_at hl 2 rfl) ?_
      refine lv_iconst (v := Int32.ofInt (1)) hx hb dX8_refuses_53 rfl ?_
      replace h := bnd h
      obtain ⟨v6, e6, h⟩ := h
      refine m_callVv (k := 36) (As := [.int (Int32.ofInt a1), .int (Int32.ofInt (1))]) (rest := []) cx.fix hi hw (cc_X8_load (l := l) (G := G) (sz := H.size) hi e6) (by decide) rfl rfl (w_cV 2 hts q_172 q_173 q_174 q_175 q_176 rfl rfl (by decide) (by decide)) hl.1 rfl (lv_room (Nat.le_of_ble_eq_true rfl)) dX8_refuses_54 (fun H locs hw => ?_)
      refine lv_iconst (v := Int32.ofInt (0)) hx hb dX8_refuses_57 rfl ?_
      cases h
      exact kr _ _ _ _ dX8_refuses_58 nb0 hw
    · replace h := ite_f hc h
      refine lv_iconst (v := Int32.ofInt (1)) hx hb dX8_refuses_43 rfl ?_
      cases h
      exact kr _ _ _ _ dX8_refuses_44 nb1 hw
  clear h
  replace h := j7
  clear j7
  replace h := bnd h
  obtain ⟨_, hg, h⟩ := h
  refine o_if_eq (tgt := 15) hx hb hg dX8_refuses_5 (by decide) (fun hc => ?_) (fun hc => ?_)
  · replace h := ite_t hc h
    refine lv_iconst (v := Int32.ofInt (1)) hx hb dX8_refuses_15 rfl ?_
    refine lv_goto (tgt := 33) hx hb dX8_refuses_16 (by decide) ?_
    cases h
    exact kj _ _ _ (lv_sub hl [0, 1, 2] rfl) hw
  · replace h := ite_f hc h
    refine lv_iload_n hx hb dX8_refuses_8 rfl (lv_at hl 2 rfl) ?_
    replace h := bnd h
    obtain ⟨v2, e2, h⟩ := h
    refine m_callSi (As := [.int (Int32.ofInt a1)]) (rest := [.ref (adr 36)]) cx.fix hw (cc_X8_isPoly (l := l) (G := G) (sz := H.size) (M := M) hi e2) (w_cS 1 hts q_167 q_168 q_169 q_170 rfl rfl (by decide) (by decide)) hl.1 rfl (lv_room (Nat.le_of_ble_eq_true rfl)) dX8_refuses_9 (fun H locs hw => ?_)
    replace h := bnd h
    obtain ⟨_, hg, h⟩ := h
    refine o_if_ne (tgt := 19) hx hb hg dX8_refuses_12 (by decide) (fun hc => ?_) (fun hc => ?_)
    · replace h := ite_f hc h
      refine lv_aload_n hx hb dX8_refuses_19 rfl (lv_at hl 0 rfl) ?_
      refine m_get (k := 36) (C := RX8) (T := TX8) (N := 18) (ref := "LiftFactorsModel") (v := .int (Int32.ofInt (M.2 36 2))) hx hb hi hts inX8_u hown hw (by decide) rfl 2 (by decide) q_16 rfl rfl dX8_refuses_20 ?_
      refine lv_bipush (v := Int32.ofInt (80)) hx hb dX8_refuses_23 rfl ?_
      replace h := bnd h
      obtain ⟨_, hg, h⟩ := h
      refine o_icmp_ne (tgt := 32) hx hb hg dX8_refuses_25 (by decide) (fun hc => ?_) (fun hc => ?_)
      · replace h := ite_f hc h
        refine lv_iconst (v := Int32.ofInt (0)) hx hb dX8_refuses_32 rfl ?_
        cases h
        exact kj _ _ _ (lv_sub hl [0, 1, 2] rfl) hw
      · replace h := ite_t hc h
        refine lv_iconst (v := Int32.ofInt (2)) hx hb dX8_refuses_28 rfl ?_
        refine lv_goto (tgt := 33) hx hb dX8_refuses_29 (by decide) ?_
        cases h
        exact kj _ _ _ (lv_sub hl [0, 1, 2] rfl) hw
    · replace h := ite_t hc h
      refine lv_iconst (v := Int32.ofInt (1)) hx hb dX8_refuses_15 rfl ?_
      refine lv_goto (tgt := 33) hx hb dX8_refuses_16 (by decide) ?_
      cases h
      exact kj _ _ _ (lv_sub hl [0, 1, 2] rfl) hw
theorem cc_X8_refuses {l : Launch} {G : gG} {adr : Nat → Nat} {sz : Nat} (hi : adi adr) {n : Nat} {a0 : Int} {a1 : Int} {M M' : MI} {r : Int} (h : f_X8_refuses n a0 a1 M = some (r, M')) : mI l yX8_refuses cX8_refuses 3 (some .boolean) { frames := 2, cells := 0, slots := 0, locals := 46 } G adr [.ref (adr 36), .int (Int32.ofInt a0), .int (Int32.ofInt a1)] (tm M) sz (Int32.ofInt r) (tm M') := by
  refine wEnter (by decide) (Nat.le_of_ble_eq_true rfl) ?_
  intro p e s m below meth c ls cx hinit hl hsz hw
  exact b_X8_refuses cx hi h (fun pc ls H locs hd hz hw => w_zret (post := fun (r9 : Int32) (u : Mem) => r9 = Int32.ofInt r ∧ u = tm M') (lf := fun u => (LL adr, wf G adr u)) cx.1 cx.2.1 cx.2.2.1 cx.2.2.2.2.2.2 hz (tm M') hw ⟨rfl, rfl⟩ hd) hl hw
theorem q_214 : Cond.methodLink RX8 211 yX8_refuses ∈ uU := uU_in (by decide +kernel) (by decide +kernel)
theorem q_215 : Cond.instanceMethod yX8_refuses ∈ uU := uU_in (by decide +kernel) (by decide +kernel)
theorem q_216 : Cond.selects yX8_refuses.cls yX8_refuses yX8_refuses ∈ uU := uU_in (by decide +kernel) (by decide +kernel)
theorem q_217 : Cond.initialized yX8_refuses.cls ∈ uU := uU_in (by decide +kernel) (by decide +kernel)
theorem q_218 : Cond.code yX8_refuses cX8_refuses 3 (some .boolean) ∈ uU := uU_in (by decide +kernel) (by decide +kernel)
def l_X8_times_50 (v7 : Int) : MI × Int → Option ((MI) ⊕ (MI × Int)) := fun (M8, v9) =>
  Option.bind (gI v9 v7) fun _ =>
  if v7 < v9 then
    some (.inl M8)
  else
    Option.bind (osJ M8 41 ((264) + v9) (0)) fun v10 =>
    some (.inr (v10, v9 + 1))
def l_X8_times_95 (v14 : Int) : MI × Int → Option ((MI) ⊕ (MI × Int)) := fun (M16, v17) =>
  Option.bind (odI M16 42 (1)) fun v18 =>
  Option.bind (gI v17 v18) fun _ =>
  if v18 < v17 then
    some (.inl M16)
  else
    Option.bind (odJ M16 41 (((264) + v14) + v17)) fun v19 =>
    Option.bind (odJ M16 41 ((0) + v14)) fun v20 =>
    Option.bind (odJ M16 41 ((24) + v17)) fun v21 =>
    Option.bind (osJ M16 41 (((264) + v14) + v17) (v19 + (v20 * v21))) fun v22 =>
    some (.inr (v22, v17 + 1))
def l_X8_times_77 (n : Nat) (v7 : Int) : MI × Int → Option ((MI) ⊕ (MI × Int)) := fun (M13, v14) =>
  Option.bind (odI M13 42 (0)) fun v15 =>
  Option.bind (gI v14 v15) fun _ =>
  if v15 < v14 then
    some (.inl M13)
  else
    Option.bind (gI v7 0) fun _ =>
    if v7 < 0 then
      some (.inl M13)
    else
      Option.bind (lpF (l_X8_times_95 v14) n (M13, (0))) fun M24 =>
      some (.inr (M24, v14 + 1))
def f_X8_times (n : Nat) (a0 : Int) (a1 : Int) (M : MI) : Option (Int × MI) :=
  Option.bind (f_X8_refuses n a0 a1 M) fun (v1, M2) =>
  Option.bind (gI v1 0) fun _ =>
  if v1 = 0 then
    Option.bind (odI M2 42 (0)) fun v3 =>
    Option.bind (
      Option.bind (gI v3 0) fun _ =>
      if v3 < 0 then
        some (-1)
      else
        Option.bind (odI M2 42 (1)) fun v4 =>
        Option.bind (gI v4 0) fun _ =>
        if 0 ≤ v4 then
          Option.bind (odI M2 42 (0)) fun v5 =>
          Option.bind (odI M2 42 (1)) fun v6 =>
          some (v5 + v6)
        else
          some (-1)) fun v7 =>
    Option.bind (lpF (l_X8_times_50 v7) n (M2, (0))) fun M12 =>
    Option.bind (lpF (l_X8_times_77 n v7) n (M12, (0))) fun M26 =>
    Option.bind (f_X8_trim n (11) v7 M26) fun v27 =>
    Option.bind (f_X8_great n (11) v27) fun v28 =>
    Option.bind (
      Option.bind (gI v28 0) fun _ =>
      if v28 = 0 then
        some (0)
      else
        some (3)) fun v29 =>
    Option.bind (opI v27 36 3 v29) fun v30 =>
    Option.bind (
      Option.bind (gI (v30.2 36 3) 0) fun _ =>
      if (v30.2 36 3) = 0 then
        Option.bind (f_X8_store n (11) v30) fun (v31, M32) =>
        some (M32, v31)
      else
        some (v30, (0))) fun (M33, v34) =>
    some (v34, M33)
  else
    some ((0), M2)
set_option maxRecDepth 100000 in
set_option maxHeartbeats 8000000 in
theorem b_X8_times {p : Program} {l : Launch} {e : Env} {s : State} {m : MethodId} {args : Array Value} {below : List Frame} {meth : Method} {c : Code} {Q : State → Prop} {G : gG} {A : Nat → Prop} {adr : Nat → Nat} (cx : cX p s m args meth c cX8_times (some .int) 6 yX8_times.cls) (hi : adi adr) {n : Nat} {a0 : Int} {a1 : Int} {M M' : MI} {r : Int} 
    (h : f_X8_times n a0 a1 M = some (r, M'))
    (kr : ∀ (pc : Nat) (ls : Array Slot) (H : Heap) (locs : List Loc), decode cX8_times pc = .ok (.ireturn, 1) → wH G A s.heap s (LL adr) (wf G adr (tm M')) H locs → W p l e { frames := 3, cells := 0, slots := 0, locals := 68 } s m args below meth c H locs 0 0 Q (F0 m pc ls [.int (Int32.ofInt r)]))
    {ls : Array Slot} {H : Heap} {locs : List Loc} (hl : lv_has ls 6 [(0, .ref (adr 36)), (1, .int (Int32.ofInt a0)), (2, .int (Int32.ofInt a1))]) (hw : wH G A s.heap s (LL adr) (wf G adr (tm M)) H locs) : W p l e { frames := 3, cells := 0, slots := 0, locals := 68 } s m args below meth c H locs 0 0 Q (F0 m 0 ls []) := by
  obtain ⟨hx, hb, -, -, hown, hts, -⟩ := id cx
  have hown : s.vm.findClass RX8 = some m.cls := hown
  unfold f_X8_times at h
  refine lv_aload_n hx hb dX8_times_0 rfl (lv_at hl 0 rfl) ?_
  refine lv_iload_n hx hb dX8_times_1 rfl (lv_at hl 1 rfl) ?_
  refine lv_iload_n hx hb dX8_times_2 rfl (lv_at hl 2 rfl) ?_
  replace h := bnd h
  obtain ⟨⟨v1, M2⟩, e1, h⟩ := h
  refine m_callVi (k := 36) (As := [.int (Int32.ofInt a0), .int (Int32.ofInt a1)]) (rest := []) cx.fix hi hw (cc_X8_refuses (l := l) (G := G) (sz := H.size) hi e1) (by decide) rfl rfl (w_cV 2 hts q_214 q_215 q_216 q_217 q_218 rfl rfl (by decide) (by decide)) hl.1 rfl (lv_room (Nat.le_of_ble_eq_true rfl)) dX8_times_3 (fun H locs hw => ?_)
  replace h := bnd h
  obtain ⟨_, hg, h⟩ := h
  refine o_if_eq (tgt := 11) hx hb hg dX8_times_6 (by decide) (fun hc => ?_) (fun hc => ?_)
  · replace h := ite_t hc h
    refine lv_aload_n hx hb dX8_times_11 rfl (lv_at hl 0 rfl) ?_
    refine m_get (k := 36) (C := RX8) (T := TX8) (N := 18) (ref := "LiftFactorsModel") (v := .ref (adr 42)) hx hb hi hts inX8_u hown hw (by decide) rfl 8 (by decide) q_1 rfl rfl dX8_times_12 ?_
    refine lv_iconst (v := Int32.ofInt (0)) hx hb dX8_times_15 rfl ?_
    replace h := bnd h
    obtain ⟨v3, e3, h⟩ := h
    refine o_iald hx hb hi hw e3 dX8_times_16 ?_
    replace h := bnd h
    obtain ⟨v7, j37, h⟩ := h
    have kj : ∀ (ls : Array Slot) (H : Heap) (locs : List Loc), lv_has ls 6 [(0, .ref (adr 36))] → wH G A s.heap s (LL adr) (wf G adr (tm M2)) H locs → W p l e { frames := 3, cells := 0, slots := 0, locals := 68 } s m args below meth c H locs 0 0 Q (F0 m 46 ls [.int (Int32.ofInt v7)]) := by
      intro ls H locs hl hw
      refine lv_istore_n (lv' := [(3, .int (Int32.ofInt v7)), (0, .ref (adr 36))]) hx hb dX8_times_46 rfl hl (by decide) rfl (fun ls hl => ?_)
      refine lv_iconst (v := Int32.ofInt (0)) hx hb dX8_times_47 rfl ?_
      refine lv_istore (lv' := [(4, .int (Int32.ofInt (0))), (3, .int (Int32.ofInt v7)), (0, .ref (adr 36))]) hx hb dX8_times_48 hl (by decide) rfl (fun ls hl => ?_)
      replace h := bnd h
      obtain ⟨M12, j11, h⟩ := h
      refine lp_W (Wst := fun (st : MI × Int) => ∀ (ls : Array Slot) (H : Heap) (locs : List Loc), lv_has ls 6 [(0, .ref (adr 36)), (3, .int (Int32.ofInt v7)), (4, .int (Int32.ofInt st.2))] → wH G A s.heap s (LL adr) (wf G adr (tm st.1)) H locs → W p l e { frames := 3, cells := 0, slots := 0, locals := 68 } s m args below meth c H locs 0 0 Q (F0 m 50 ls [])) (fin := fun (r : MI) => ∀ (ls : Array Slot) (H : Heap) (locs : List Loc), lv_has ls 6 [(0, .ref (adr 36)), (3, .int (Int32.ofInt v7))] → wH G A s.heap s (LL adr) (wf G adr (tm r)) H locs → W p l e { frames := 3, cells := 0, slots := 0, locals := 68 } s m args below meth c H locs 0 0 Q (F0 m 74 ls [])) ?_ n _ _ j11 ?_ _ _ _ (lv_sub hl [2, 1, 0] rfl) hw
      · clear h j11 hw hl
        intro ⟨M8, v9⟩ x h k1 k2 ls H locs hl hw
        (try dsimp only at k1 k2 hl hw ⊢)
        unfold l_X8_times_50 at h
        (try dsimp only at h)
        refine lv_iload hx hb dX8_times_50 (lv_at hl 2 rfl) ?_
        refine lv_iload_n hx hb dX8_times_52 rfl (lv_at hl 1 rfl) ?_
        replace h := bnd h
        obtain ⟨_, hg, h⟩ := h
        refine o_icmp_gt (tgt := 74) hx hb hg dX8_times_53 (by decide) (fun hc => ?_) (fun hc => ?_)
        · replace h := ite_t hc h
          cases h
          exact k1 _ rfl _ _ _ (lv_sub hl [0, 1] rfl) hw
        · replace h := ite_f hc h
          refine lv_aload_n hx hb dX8_times_56 rfl (lv_at hl 0 rfl) ?_
          refine m_get (k := 36) (C := RX8) (T := TX8) (N := 18) (ref := "LiftFactorsModel") (v := .ref (adr 41)) hx hb hi hts inX8_u hown hw (by decide) rfl 7 (by decide) q_0 rfl rfl dX8_times_57 ?_
          refine lv_sipush (v := Int32.ofInt (264)) hx hb dX8_times_60 rfl ?_
          refine lv_iload hx hb dX8_times_63 (lv_at hl 2 rfl) ?_
          refine o_iadd hx hb dX8_times_65 ?_
          refine lv_lconst (v := Int64.ofInt (0)) hx hb dX8_times_66 (by decide) ?_
          replace h := bnd h
          obtain ⟨v10, e10, h⟩ := h
          refine o_last hx hb hi hw e10 dX8_times_67 (fun H locs hw => ?_)
          refine lv_iinc (v := Int32.ofInt (v9 + 1)) (lv' := [(4, .int (Int32.ofInt (v9 + 1))), (0, .ref (adr 36)), (3, .int (Int32.ofInt v7))]) hx hb dX8_times_68 hl (k := 2) rfl (inc_o _ _) (by decide) rfl (fun ls hl => ?_)
          refine lv_goto (tgt := 50) hx hb dX8_times_71 (by decide) ?_
          cases h
          exact k2 _ rfl _ _ _ (lv_sub hl [1, 2, 0] rfl) hw
      · clear hw hl
        intro ls H locs hl hw
        (try dsimp only at hl hw ⊢)
        refine lv_iconst (v := Int32.ofInt (0)) hx hb dX8_times_74 rfl ?_
        refine lv_istore (lv' := [(4, .int (Int32.ofInt (0))), (0, .ref (adr 36)), (3, .int (Int32.ofInt v7))]) hx hb dX8_times_75 hl (by decide) rfl (fun ls hl => ?_)
        replace h := bnd h
        obtain ⟨M26, j25, h⟩ := h
        refine lp_W (Wst := fun (st : MI × Int) => ∀ (ls : Array Slot) (H : Heap) (locs : List Loc), lv_has ls 6 [(0, .ref (adr 36)), (3, .int (Int32.ofInt v7)), (4, .int (Int32.ofInt st.2))] → wH G A s.heap s (LL adr) (wf G adr (tm st.1)) H locs → W p l e { frames := 3, cells := 0, slots := 0, locals := 68 } s m args below meth c H locs 0 0 Q (F0 m 77 ls [])) (fin := fun (r : MI) => ∀ (ls : Array Slot) (H : Heap) (locs : List Loc), lv_has ls 6 [(0, .ref (adr 36)), (3, .int (Int32.ofInt v7))] → wH G A s.heap s (LL adr) (wf G adr (tm r)) H locs → W p l e { frames := 3, cells := 0, slots := 0, locals := 68 } s m args below meth c H locs 0 0 Q (F0 m 155 ls [])) ?_ n _ _ j25 ?_ _ _ _ (lv_sub hl [1, 2, 0] rfl) hw
        · clear h j25 hw hl
          intro ⟨M13, v14⟩ x h k1 k2 ls H locs hl hw
          (try dsimp only at k1 k2 hl hw ⊢)
          unfold l_X8_times_77 at h
          (try dsimp only at h)
          refine lv_iload hx hb dX8_times_77 (lv_at hl 2 rfl) ?_
          refine lv_aload_n hx hb dX8_times_79 rfl (lv_at hl 0 rfl) ?_
          refine m_get (k := 36) (C := RX8) (T := TX8) (N := 18) (ref := "LiftFactorsModel") (v := .ref (adr 42)) hx hb hi hts inX8_u hown hw (by decide) rfl 8 (by decide) q_1 rfl rfl dX8_times_80 ?_
          refine lv_iconst (v := Int32.ofInt (0)) hx hb dX8_times_83 rfl ?_
          replace h := bnd h
          obtain ⟨v15, e15, h⟩ := h
          refine o_iald hx hb hi hw e15 dX8_times_84 ?_
          replace h := bnd h
          obtain ⟨_, hg, h⟩ := h
          refine o_icmp_gt (tgt := 155) hx hb hg dX8_times_85 (by decide) (fun hc => ?_) (fun hc => ?_)
          · replace h := ite_t hc h
            cases h
            exact k1 _ rfl _ _ _ (lv_sub hl [0, 1] rfl) hw
          · replace h := ite_f hc h
            refine lv_iload_n hx hb dX8_times_88 rfl (lv_at hl 1 rfl) ?_
            replace h := bnd h
            obtain ⟨_, hg, h⟩ := h
            refine o_if_lt (tgt := 155) hx hb hg dX8_times_89 (by decide) (fun hc => ?_) (fun hc => ?_)
            · replace h := ite_t hc h
              cases h
              exact k1 _ rfl _ _ _ (lv_sub hl [0, 1] rfl) hw
            · replace h := ite_f hc h
              refine lv_iconst (v := Int32.ofInt (0)) hx hb dX8_times_92 rfl ?_
              refine lv_istore (lv' := [(5, .int (Int32.ofInt (0))), (0, .ref (adr 36)), (3, .int (Int32.ofInt v7)), (4, .int (Int32.ofInt v14))]) hx hb dX8_times_93 hl (by decide) rfl (fun ls hl => ?_)
              replace h := bnd h
              obtain ⟨M24, j23, h⟩ := h
              refine lp_W (Wst := fun (st : MI × Int) => ∀ (ls : Array Slot) (H : Heap) (locs : List Loc), lv_has ls 6 [(0, .ref (adr 36)), (3, .int (Int32.ofInt v7)), (4, .int (Int32.ofInt v14)), (5, .int (Int32.ofInt st.2))] → wH G A s.heap s (LL adr) (wf G adr (tm st.1)) H locs → W p l e { frames := 3, cells := 0, slots := 0, locals := 68 } s m args below meth c H locs 0 0 Q (F0 m 95 ls [])) (fin := fun (r : MI) => ∀ (ls : Array Slot) (H : Heap) (locs : List Loc), lv_has ls 6 [(0, .ref (adr 36)), (3, .int (Int32.ofInt v7)), (4, .int (Int32.ofInt v14))] → wH G A s.heap s (LL adr) (wf G adr (tm r)) H locs → W p l e { frames := 3, cells := 0, slots := 0, locals := 68 } s m args below meth c H locs 0 0 Q (F0 m 149 ls [])) ?_ n _ _ j23 ?_ _ _ _ (lv_sub hl [1, 2, 3, 0] rfl) hw
              · clear h j23 hw hl
                intro ⟨M16, v17⟩ x h k1 k2 ls H locs hl hw
                (try dsimp only at k1 k2 hl hw ⊢)
                unfold l_X8_times_95 at h
                (try dsimp only at h)
                refine lv_iload hx hb dX8_times_95 (lv_at hl 3 rfl) ?_
                refine lv_aload_n hx hb dX8_times_97 rfl (lv_at hl 0 rfl) ?_
                refine m_get (k := 36) (C := RX8) (T := TX8) (N := 18) (ref := "LiftFactorsModel") (v := .ref (adr 42)) hx hb hi hts inX8_u hown hw (by decide) rfl 8 (by decide) q_1 rfl rfl dX8_times_98 ?_
                refine lv_iconst (v := Int32.ofInt (1)) hx hb dX8_times_101 rfl ?_
                replace h := bnd h
                obtain ⟨v18, e18, h⟩ := h
                refine o_iald hx hb hi hw e18 dX8_times_102 ?_
                replace h := bnd h
                obtain ⟨_, hg, h⟩ := h
                refine o_icmp_gt (tgt := 149) hx hb hg dX8_times_103 (by decide) (fun hc => ?_) (fun hc => ?_)
                · replace h := ite_t hc h
                  cases h
                  exact k1 _ rfl _ _ _ (lv_sub hl [0, 1, 2] rfl) hw
                · replace h := ite_f hc h
                  refine lv_aload_n hx hb dX8_times_106 rfl (lv_at hl 0 rfl) ?_
                  refine m_get (k := 36) (C := RX8) (T := TX8) (N := 18) (ref := "LiftFactorsModel") (v := .ref (adr 41)) hx hb hi hts inX8_u hown hw (by decide) rfl 7 (by decide) q_0 rfl rfl dX8_times_107 ?_
                  refine lv_sipush (v := Int32.ofInt (264)) hx hb dX8_times_110 rfl ?_
                  refine lv_iload hx hb dX8_times_113 (lv_at hl 2 rfl) ?_
                  refine o_iadd hx hb dX8_times_115 ?_
                  refine lv_iload hx hb dX8_times_116 (lv_at hl 3 rfl) ?_
                  refine o_iadd hx hb dX8_times_118 ?_
                  refine lv_dup2_11 hx hb dX8_times_119 rfl rfl ?_
                  replace h := bnd h
                  obtain ⟨v19, e19, h⟩ := h
                  refine o_lald hx hb hi hw e19 dX8_times_120 ?_
                  refine lv_aload_n hx hb dX8_times_121 rfl (lv_at hl 0 rfl) ?_
                  refine m_get (k := 36) (C := RX8) (T := TX8) (N := 18) (ref := "LiftFactorsModel") (v := .ref (adr 41)) hx hb hi hts inX8_u hown hw (by decide) rfl 7 (by decide) q_0 rfl rfl dX8_times_122 ?_
                  refine lv_iconst (v := Int32.ofInt (0)) hx hb dX8_times_125 rfl ?_
                  refine lv_iload hx hb dX8_times_126 (lv_at hl 2 rfl) ?_
                  refine o_iadd hx hb dX8_times_128 ?_
                  replace h := bnd h
                  obtain ⟨v20, e20, h⟩ := h
                  refine o_lald hx hb hi hw e20 dX8_times_129 ?_
                  refine lv_aload_n hx hb dX8_times_130 rfl (lv_at hl 0 rfl) ?_
                  refine m_get (k := 36) (C := RX8) (T := TX8) (N := 18) (ref := "LiftFactorsModel") (v := .ref (adr 41)) hx hb hi hts inX8_u hown hw (by decide) rfl 7 (by decide) q_0 rfl rfl dX8_times_131 ?_
                  refine lv_bipush (v := Int32.ofInt (24)) hx hb dX8_times_134 rfl ?_
                  refine lv_iload hx hb dX8_times_136 (lv_at hl 3 rfl) ?_
                  refine o_iadd hx hb dX8_times_138 ?_
                  replace h := bnd h
                  obtain ⟨v21, e21, h⟩ := h
                  refine o_lald hx hb hi hw e21 dX8_times_139 ?_
                  refine o_lmul hx hb dX8_times_140 ?_
                  refine o_ladd hx hb dX8_times_141 ?_
                  replace h := bnd h
                  obtain ⟨v22, e22, h⟩ := h
                  refine o_last hx hb hi hw e22 dX8_times_142 (fun H locs hw => ?_)
                  refine lv_iinc (v := Int32.ofInt (v17 + 1)) (lv' := [(5, .int (Int32.ofInt (v17 + 1))), (0, .ref (adr 36)), (3, .int (Int32.ofInt v7)), (4, .int (Int32.ofInt v14))]) hx hb dX8_times_143 hl (k := 3) rfl (inc_o _ _) (by decide) rfl (fun ls hl => ?_)
                  refine lv_goto (tgt := 95) hx hb dX8_times_146 (by decide) ?_
                  cases h
                  exact k2 _ rfl _ _ _ (lv_sub hl [1, 2, 3, 0] rfl) hw
              · clear hw hl
                intro ls H locs hl hw
                (try dsimp only at hl hw ⊢)
                refine lv_iinc (v := Int32.ofInt (v14 + 1)) (lv' := [(4, .int (Int32.ofInt (v14 + 1))), (0, .ref (adr 36)), (3, .int (Int32.ofInt v7))]) hx hb dX8_times_149 hl (k := 2) rfl (inc_o _ _) (by decide) rfl (fun ls hl => ?_)
                refine lv_goto (tgt := 77) hx hb dX8_times_152 (by decide) ?_
                cases h
                exact k2 _ rfl _ _ _ (lv_sub hl [1, 2, 0] rfl) hw
        · clear hw hl
          intro ls H locs hl hw
          (try dsimp only at hl hw ⊢)
          refine lv_aload_n hx hb dX8_times_155 rfl (lv_at hl 0 rfl) ?_
          refine lv_bipush (v := Int32.ofInt (11)) hx hb dX8_times_156 rfl ?_
          refine lv_iload_n hx hb dX8_times_158 rfl (lv_at hl 1 rfl) ?_
          replace h := bnd h
          obtain ⟨v27, e27, h⟩ := h
          refine m_callVv (k := 36) (As := [.int (Int32.ofInt (11)), .int (Int32.ofInt v7)]) (rest := []) cx.fix hi hw (cc_X8_trim (l := l) (G := G) (sz := H.size) hi e27) (by decide) rfl rfl (w_cV 2 hts q_11 q_12 q_13 q_14 q_15 rfl rfl (by decide) (by decide)) hl.1 rfl (lv_room (Nat.le_of_ble_eq_true rfl)) dX8_times_159 (fun H locs hw => ?_)
          refine lv_aload_n hx hb dX8_times_162 rfl (lv_at hl 0 rfl) ?_
          refine lv_aload_n hx hb dX8_times_163 rfl (lv_at hl 0 rfl) ?_
          refine lv_bipush (v := Int32.ofInt (11)) hx hb dX8_times_164 rfl ?_
          replace h := bnd h
          obtain ⟨v28, e28, h⟩ := h
          refine m_callVi (k := 36) (As := [.int (Int32.ofInt (11))]) (rest := [.ref (adr 36)]) cx.fix hi hw (cc_X8_great (l := l) (G := G) (sz := H.size) hi e28) (by decide) rfl rfl (w_cV 1 hts q_197 q_198 q_199 q_200 q_201 rfl rfl (by decide) (by decide)) hl.1 rfl (lv_room (Nat.le_of_ble_eq_true rfl)) dX8_times_166 (fun H locs hw => ?_)
          replace h := bnd h
          obtain ⟨v29, j36, h⟩ := h
          have kj : ∀ (ls : Array Slot) (H : Heap) (locs : List Loc), lv_has ls 6 [(0, .ref (adr 36))] → wH G A s.heap s (LL adr) (wf G adr (tm v27)) H locs → W p l e { frames := 3, cells := 0, slots := 0, locals := 68 } s m args below meth c H locs 0 0 Q (F0 m 177 ls [.int (Int32.ofInt v29), .ref (adr 36)]) := by
            intro ls H locs hl hw
            replace h := bnd h
            obtain ⟨v30, e30, h⟩ := h
            refine o_putI (k := 36) (C := RX8) (T := TX8) (N := 18) (ref := "LiftFactorsModel") hx hb hi hts inX8_u tyX8 tyX8_ok nmX8 hown hw (by decide) rfl 3 (by decide) q_171 rfl rfl e30 (by decide +kernel) rfl dX8_times_177 (fun H locs hw => ?_)
            refine lv_aload_n hx hb dX8_times_180 rfl (lv_at hl 0 rfl) ?_
            refine m_get (k := 36) (C := RX8) (T := TX8) (N := 18) (ref := "LiftFactorsModel") (v := .int (Int32.ofInt (v30.2 36 3))) hx hb hi hts inX8_u hown hw (by decide) rfl 3 (by decide) q_171 rfl rfl dX8_times_181 ?_
            replace h := bnd h
            obtain ⟨⟨M33, v34⟩, j35, h⟩ := h
            have kj : ∀ (ls : Array Slot) (H : Heap) (locs : List Loc), lv_has ls 6 [] → wH G A s.heap s (LL adr) (wf G adr (tm M33)) H locs → W p l e { frames := 3, cells := 0, slots := 0, locals := 68 } s m args below meth c H locs 0 0 Q (F0 m 197 ls [.int (Int32.ofInt v34)]) := by
              intro ls H locs hl hw
              cases h
              exact kr _ _ _ _ dX8_times_197 hw
            clear h
            replace h := j35
            clear j35
            replace h := bnd h
            obtain ⟨_, hg, h⟩ := h
            refine o_if_eq (tgt := 191) hx hb hg dX8_times_184 (by decide) (fun hc => ?_) (fun hc => ?_)
            · replace h := ite_t hc h
              refine lv_aload_n hx hb dX8_times_191 rfl (lv_at hl 0 rfl) ?_
              refine lv_bipush (v := Int32.ofInt (11)) hx hb dX8_times_192 rfl ?_
              replace h := bnd h
              obtain ⟨⟨v31, M32⟩, e31, h⟩ := h
              refine m_callVi (k := 36) (As := [.int (Int32.ofInt (11))]) (rest := []) cx.fix hi hw (cc_X8_store (l := l) (G := G) (sz := H.size) hi e31) (by decide) rfl rfl (w_cV 1 hts q_204 q_205 q_206 q_207 q_208 rfl rfl (by decide) (by decide)) hl.1 rfl (lv_room (Nat.le_of_ble_eq_true rfl)) dX8_times_194 (fun H locs hw => ?_)
              cases h
              exact kj _ _ _ (lv_sub hl [] rfl) hw
            · replace h := ite_f hc h
              refine lv_iconst (v := Int32.ofInt (0)) hx hb dX8_times_187 rfl ?_
              refine lv_goto (tgt := 197) hx hb dX8_times_188 (by decide) ?_
              cases h
              exact kj _ _ _ (lv_sub hl [] rfl) hw
          clear h
          replace h := j36
          clear j36
          replace h := bnd h
          obtain ⟨_, hg, h⟩ := h
          refine o_if_eq (tgt := 176) hx hb hg dX8_times_169 (by decide) (fun hc => ?_) (fun hc => ?_)
          · replace h := ite_t hc h
            refine lv_iconst (v := Int32.ofInt (0)) hx hb dX8_times_176 rfl ?_
            cases h
            exact kj _ _ _ (lv_sub hl [0] rfl) hw
          · replace h := ite_f hc h
            refine lv_iconst (v := Int32.ofInt (3)) hx hb dX8_times_172 rfl ?_
            refine lv_goto (tgt := 177) hx hb dX8_times_173 (by decide) ?_
            cases h
            exact kj _ _ _ (lv_sub hl [0] rfl) hw
    clear h
    replace h := j37
    clear j37
    replace h := bnd h
    obtain ⟨_, hg, h⟩ := h
    refine o_if_lt (tgt := 29) hx hb hg dX8_times_17 (by decide) (fun hc => ?_) (fun hc => ?_)
    · replace h := ite_t hc h
      refine lv_iconst (v := Int32.ofInt (-1)) hx hb dX8_times_29 rfl ?_
      refine lv_goto (tgt := 46) hx hb dX8_times_30 (by decide) ?_
      cases h
      exact kj _ _ _ (lv_sub hl [0] rfl) hw
    · replace h := ite_f hc h
      refine lv_aload_n hx hb dX8_times_20 rfl (lv_at hl 0 rfl) ?_
      refine m_get (k := 36) (C := RX8) (T := TX8) (N := 18) (ref := "LiftFactorsModel") (v := .ref (adr 42)) hx hb hi hts inX8_u hown hw (by decide) rfl 8 (by decide) q_1 rfl rfl dX8_times_21 ?_
      refine lv_iconst (v := Int32.ofInt (1)) hx hb dX8_times_24 rfl ?_
      replace h := bnd h
      obtain ⟨v4, e4, h⟩ := h
      refine o_iald hx hb hi hw e4 dX8_times_25 ?_
      replace h := bnd h
      obtain ⟨_, hg, h⟩ := h
      refine o_if_ge (tgt := 33) hx hb hg dX8_times_26 (by decide) (fun hc => ?_) (fun hc => ?_)
      · replace h := ite_t hc h
        refine lv_aload_n hx hb dX8_times_33 rfl (lv_at hl 0 rfl) ?_
        refine m_get (k := 36) (C := RX8) (T := TX8) (N := 18) (ref := "LiftFactorsModel") (v := .ref (adr 42)) hx hb hi hts inX8_u hown hw (by decide) rfl 8 (by decide) q_1 rfl rfl dX8_times_34 ?_
        refine lv_iconst (v := Int32.ofInt (0)) hx hb dX8_times_37 rfl ?_
        replace h := bnd h
        obtain ⟨v5, e5, h⟩ := h
        refine o_iald hx hb hi hw e5 dX8_times_38 ?_
        refine lv_aload_n hx hb dX8_times_39 rfl (lv_at hl 0 rfl) ?_
        refine m_get (k := 36) (C := RX8) (T := TX8) (N := 18) (ref := "LiftFactorsModel") (v := .ref (adr 42)) hx hb hi hts inX8_u hown hw (by decide) rfl 8 (by decide) q_1 rfl rfl dX8_times_40 ?_
        refine lv_iconst (v := Int32.ofInt (1)) hx hb dX8_times_43 rfl ?_
        replace h := bnd h
        obtain ⟨v6, e6, h⟩ := h
        refine o_iald hx hb hi hw e6 dX8_times_44 ?_
        refine o_iadd hx hb dX8_times_45 ?_
        cases h
        exact kj _ _ _ (lv_sub hl [0] rfl) hw
      · replace h := ite_f hc h
        refine lv_iconst (v := Int32.ofInt (-1)) hx hb dX8_times_29 rfl ?_
        refine lv_goto (tgt := 46) hx hb dX8_times_30 (by decide) ?_
        cases h
        exact kj _ _ _ (lv_sub hl [0] rfl) hw
  · replace h := ite_f hc h
    refine lv_iconst (v := Int32.ofInt (0)) hx hb dX8_times_9 rfl ?_
    cases h
    exact kr _ _ _ _ dX8_times_10 hw
theorem cc_X8_times {l : Launch} {G : gG} {adr : Nat → Nat} {sz : Nat} (hi : adi adr) {n : Nat} {a0 : Int} {a1 : Int} {M M' : MI} {r : Int} (h : f_X8_times n a0 a1 M = some (r, M')) : mI l yX8_times cX8_times 6 (some .int) { frames := 3, cells := 0, slots := 0, locals := 68 } G adr [.ref (adr 36), .int (Int32.ofInt a0), .int (Int32.ofInt a1)] (tm M) sz (Int32.ofInt r) (tm M') := by
  refine wEnter (by decide) (Nat.le_of_ble_eq_true rfl) ?_
  intro p e s m below meth c ls cx hinit hl hsz hw
  exact b_X8_times cx hi h (fun pc ls H locs hd hw => w_iret (post := fun (r9 : Int32) (u : Mem) => r9 = Int32.ofInt r ∧ u = tm M') (lf := fun u => (LL adr, wf G adr u)) cx.1 cx.2.1 cx.2.2.1 cx.2.2.2.2.2.2 (tm M') hw ⟨rfl, rfl⟩ hd) hl hw
def f_X8_over (n : Nat) (a0 : Int) (a1 : Int) (M : MI) : Option (Int × MI) :=
  Option.bind (f_X8_refuses n a0 a1 M) fun (v1, M2) =>
  Option.bind (gI v1 0) fun _ =>
  if v1 = 0 then
    Option.bind (odI M2 42 (1)) fun v3 =>
    Option.bind (
      Option.bind (gI v3 0) fun _ =>
      if 0 ≤ v3 then
        some (0)
      else
        some (3)) fun v4 =>
    Option.bind (opI M2 36 3 v4) fun v5 =>
    Option.bind (gI (v5.2 36 3) 0) fun _ =>
    if (v5.2 36 3) = 0 then
      Option.bind (f_X8_divides n (1) (0) (9999) v5) fun (v6, M7) =>
      Option.bind (
        Option.bind (gI v6 0) fun _ =>
        if v6 = 0 then
          some (M7, (-1))
        else
          Option.bind (f_X8_store n (3) M7) fun (v8, M9) =>
          some (M9, v8)) fun (M10, v11) =>
      some (v11, M10)
    else
      some ((0), v5)
  else
    some ((0), M2)
set_option maxRecDepth 100000 in
set_option maxHeartbeats 8000000 in
theorem b_X8_over {p : Program} {l : Launch} {e : Env} {s : State} {m : MethodId} {args : Array Value} {below : List Frame} {meth : Method} {c : Code} {Q : State → Prop} {G : gG} {A : Nat → Prop} {adr : Nat → Nat} (cx : cX p s m args meth c cX8_over (some .int) 3 yX8_over.cls) (hi : adi adr) {n : Nat} {a0 : Int} {a1 : Int} {M M' : MI} {r : Int} 
    (h : f_X8_over n a0 a1 M = some (r, M'))
    (kr : ∀ (pc : Nat) (ls : Array Slot) (H : Heap) (locs : List Loc), decode cX8_over pc = .ok (.ireturn, 1) → wH G A s.heap s (LL adr) (wf G adr (tm M')) H locs → W p l e { frames := 3, cells := 0, slots := 0, locals := 68 } s m args below meth c H locs 0 0 Q (F0 m pc ls [.int (Int32.ofInt r)]))
    {ls : Array Slot} {H : Heap} {locs : List Loc} (hl : lv_has ls 3 [(0, .ref (adr 36)), (1, .int (Int32.ofInt a0)), (2, .int (Int32.ofInt a1))]) (hw : wH G A s.heap s (LL adr) (wf G adr (tm M)) H locs) : W p l e { frames := 3, cells := 0, slots := 0, locals := 68 } s m args below meth c H locs 0 0 Q (F0 m 0 ls []) := by
  obtain ⟨hx, hb, -, -, hown, hts, -⟩ := id cx
  have hown : s.vm.findClass RX8 = some m.cls := hown
  unfold f_X8_over at h
  refine lv_aload_n hx hb dX8_over_0 rfl (lv_at hl 0 rfl) ?_
  refine lv_iload_n hx hb dX8_over_1 rfl (lv_at hl 1 rfl) ?_
  refine lv_iload_n hx hb dX8_over_2 rfl (lv_at hl 2 rfl) ?_
  replace h := bnd h
  obtain ⟨⟨v1, M2⟩, e1, h⟩ := h
  refine m_callVi (k := 36) (As := [.int (Int32.ofInt a0), .int (Int32.ofInt a1)]) (rest := []) cx.fix hi hw (cc_X8_refuses (l := l) (G := G) (sz := H.size) hi e1) (by decide) rfl rfl (w_cV 2 hts q_214 q_215 q_216 q_217 q_218 rfl rfl (by decide) (by decide)) hl.1 rfl (lv_room (Nat.le_of_ble_eq_true rfl)) dX8_over_3 (fun H locs hw => ?_)
  replace h := bnd h
  obtain ⟨_, hg, h⟩ := h
  refine o_if_eq (tgt := 11) hx hb hg dX8_over_6 (by decide) (fun hc => ?_) (fun hc => ?_)
  · replace h := ite_t hc h
    refine lv_aload_n hx hb dX8_over_11 rfl (lv_at hl 0 rfl) ?_
    refine lv_aload_n hx hb dX8_over_12 rfl (lv_at hl 0 rfl) ?_
    refine m_get (k := 36) (C := RX8) (T := TX8) (N := 18) (ref := "LiftFactorsModel") (v := .ref (adr 42)) hx hb hi hts inX8_u hown hw (by decide) rfl 8 (by decide) q_1 rfl rfl dX8_over_13 ?_
    refine lv_iconst (v := Int32.ofInt (1)) hx hb dX8_over_16 rfl ?_
    replace h := bnd h
    obtain ⟨v3, e3, h⟩ := h
    refine o_iald hx hb hi hw e3 dX8_over_17 ?_
    replace h := bnd h
    obtain ⟨v4, j13, h⟩ := h
    have kj : ∀ (ls : Array Slot) (H : Heap) (locs : List Loc), lv_has ls 3 [(0, .ref (adr 36))] → wH G A s.heap s (LL adr) (wf G adr (tm M2)) H locs → W p l e { frames := 3, cells := 0, slots := 0, locals := 68 } s m args below meth c H locs 0 0 Q (F0 m 26 ls [.int (Int32.ofInt v4), .ref (adr 36)]) := by
      intro ls H locs hl hw
      replace h := bnd h
      obtain ⟨v5, e5, h⟩ := h
      refine o_putI (k := 36) (C := RX8) (T := TX8) (N := 18) (ref := "LiftFactorsModel") hx hb hi hts inX8_u tyX8 tyX8_ok nmX8 hown hw (by decide) rfl 3 (by decide) q_171 rfl rfl e5 (by decide +kernel) rfl dX8_over_26 (fun H locs hw => ?_)
      refine lv_aload_n hx hb dX8_over_29 rfl (lv_at hl 0 rfl) ?_
      refine m_get (k := 36) (C := RX8) (T := TX8) (N := 18) (ref := "LiftFactorsModel") (v := .int (Int32.ofInt (v5.2 36 3))) hx hb hi hts inX8_u hown hw (by decide) rfl 3 (by decide) q_171 rfl rfl dX8_over_30 ?_
      replace h := bnd h
      obtain ⟨_, hg, h⟩ := h
      refine o_if_eq (tgt := 38) hx hb hg dX8_over_33 (by decide) (fun hc => ?_) (fun hc => ?_)
      · replace h := ite_t hc h
        refine lv_aload_n hx hb dX8_over_38 rfl (lv_at hl 0 rfl) ?_
        refine lv_iconst (v := Int32.ofInt (1)) hx hb dX8_over_39 rfl ?_
        refine lv_iconst (v := Int32.ofInt (0)) hx hb dX8_over_40 rfl ?_
        refine lv_ldc2 (v := Int64.ofInt (9999)) hx hb hown (hts _ q_22) dX8_over_41 ?_
        replace h := bnd h
        obtain ⟨⟨v6, M7⟩, e6, h⟩ := h
        refine m_callVi (k := 36) (As := [.int (Int32.ofInt (1)), .int (Int32.ofInt (0)), .long (Int64.ofInt (9999))]) (rest := []) cx.fix hi hw (cc_X8_divides (l := l) (G := G) (sz := H.size) hi e6) (by decide) rfl rfl (w_cV 3 hts q_90 q_91 q_92 q_93 q_94 rfl rfl (by decide) (by decide)) hl.1 rfl (lv_room (Nat.le_of_ble_eq_true rfl)) dX8_over_44 (fun H locs hw => ?_)
        replace h := bnd h
        obtain ⟨⟨M10, v11⟩, j12, h⟩ := h
        have kj : ∀ (ls : Array Slot) (H : Heap) (locs : List Loc), lv_has ls 3 [] → wH G A s.heap s (LL adr) (wf G adr (tm M10)) H locs → W p l e { frames := 3, cells := 0, slots := 0, locals := 68 } s m args below meth c H locs 0 0 Q (F0 m 59 ls [.int (Int32.ofInt v11)]) := by
          intro ls H locs hl hw
          cases h
          exact kr _ _ _ _ dX8_over_59 hw
        clear h
        replace h := j12
        clear j12
        replace h := bnd h
        obtain ⟨_, hg, h⟩ := h
        refine o_if_eq (tgt := 58) hx hb hg dX8_over_47 (by decide) (fun hc => ?_) (fun hc => ?_)
        · replace h := ite_t hc h
          refine lv_iconst (v := Int32.ofInt (-1)) hx hb dX8_over_58 rfl ?_
          cases h
          exact kj _ _ _ (lv_sub hl [] rfl) hw
        · replace h := ite_f hc h
          refine lv_aload_n hx hb dX8_over_50 rfl (lv_at hl 0 rfl) ?_
          refine lv_iconst (v := Int32.ofInt (3)) hx hb dX8_over_51 rfl ?_
          replace h := bnd h
          obtain ⟨⟨v8, M9⟩, e8, h⟩ := h
          refine m_callVi (k := 36) (As := [.int (Int32.ofInt (3))]) (rest := []) cx.fix hi hw (cc_X8_store (l := l) (G := G) (sz := H.size) hi e8) (by decide) rfl rfl (w_cV 1 hts q_204 q_205 q_206 q_207 q_208 rfl rfl (by decide) (by decide)) hl.1 rfl (lv_room (Nat.le_of_ble_eq_true rfl)) dX8_over_52 (fun H locs hw => ?_)
          refine lv_goto (tgt := 59) hx hb dX8_over_55 (by decide) ?_
          cases h
          exact kj _ _ _ (lv_sub hl [] rfl) hw
      · replace h := ite_f hc h
        refine lv_iconst (v := Int32.ofInt (0)) hx hb dX8_over_36 rfl ?_
        cases h
        exact kr _ _ _ _ dX8_over_37 hw
    clear h
    replace h := j13
    clear j13
    replace h := bnd h
    obtain ⟨_, hg, h⟩ := h
    refine o_if_ge (tgt := 25) hx hb hg dX8_over_18 (by decide) (fun hc => ?_) (fun hc => ?_)
    · replace h := ite_t hc h
      refine lv_iconst (v := Int32.ofInt (0)) hx hb dX8_over_25 rfl ?_
      cases h
      exact kj _ _ _ (lv_sub hl [0] rfl) hw
    · replace h := ite_f hc h
      refine lv_iconst (v := Int32.ofInt (3)) hx hb dX8_over_21 rfl ?_
      refine lv_goto (tgt := 26) hx hb dX8_over_22 (by decide) ?_
      cases h
      exact kj _ _ _ (lv_sub hl [0] rfl) hw
  · replace h := ite_f hc h
    refine lv_iconst (v := Int32.ofInt (0)) hx hb dX8_over_9 rfl ?_
    cases h
    exact kr _ _ _ _ dX8_over_10 hw
theorem cc_X8_over {l : Launch} {G : gG} {adr : Nat → Nat} {sz : Nat} (hi : adi adr) {n : Nat} {a0 : Int} {a1 : Int} {M M' : MI} {r : Int} (h : f_X8_over n a0 a1 M = some (r, M')) : mI l yX8_over cX8_over 3 (some .int) { frames := 3, cells := 0, slots := 0, locals := 68 } G adr [.ref (adr 36), .int (Int32.ofInt a0), .int (Int32.ofInt a1)] (tm M) sz (Int32.ofInt r) (tm M') := by
  refine wEnter (by decide) (Nat.le_of_ble_eq_true rfl) ?_
  intro p e s m below meth c ls cx hinit hl hsz hw
  exact b_X8_over cx hi h (fun pc ls H locs hd hw => w_iret (post := fun (r9 : Int32) (u : Mem) => r9 = Int32.ofInt r ∧ u = tm M') (lf := fun u => (LL adr, wf G adr u)) cx.1 cx.2.1 cx.2.2.1 cx.2.2.2.2.2.2 (tm M') hw ⟨rfl, rfl⟩ hd) hl hw
def f_X8_gcd (n : Nat) (a0 : Int) (a1 : Int) (M : MI) : Option (Int × MI) :=
  Option.bind (f_X8_refuses n a0 a1 M) fun (v1, M2) =>
  Option.bind (gI v1 0) fun _ =>
  if v1 = 0 then
    Option.bind (f_X8_primitive n (0) M2) fun (v3, M4) =>
    Option.bind (f_X8_primitive n (1) M4) fun (v5, M6) =>
    Option.bind (odI M6 42 (0)) fun v7 =>
    Option.bind (
      Option.bind (gI v7 0) fun _ =>
      if 0 ≤ v7 then
        Option.bind (f_X8_commonWhole n (0) (1) (11) M6) fun v8 =>
        some v8
      else
        Option.bind (odI M6 42 (1)) fun v9 =>
        Option.bind (gI v9 0) fun _ =>
        if 0 ≤ v9 then
          Option.bind (f_X8_commonWhole n (0) (1) (11) M6) fun v10 =>
          some v10
        else
          Option.bind (f_X8_copy n (0) (11) M6) fun v11 =>
          some v11) fun M12 =>
    Option.bind (f_X8_great n (11) M12) fun v13 =>
    Option.bind (
      Option.bind (gI v13 0) fun _ =>
      if v13 = 0 then
        Option.bind (f_X8_store n (11) M12) fun (v14, M15) =>
        some (M15, v14)
      else
        some (M12, (-1))) fun (M16, v17) =>
    some (v17, M16)
  else
    some ((0), M2)
set_option maxRecDepth 100000 in
set_option maxHeartbeats 8000000 in
theorem b_X8_gcd {p : Program} {l : Launch} {e : Env} {s : State} {m : MethodId} {args : Array Value} {below : List Frame} {meth : Method} {c : Code} {Q : State → Prop} {G : gG} {A : Nat → Prop} {adr : Nat → Nat} (cx : cX p s m args meth c cX8_gcd (some .int) 3 yX8_gcd.cls) (hi : adi adr) {n : Nat} {a0 : Int} {a1 : Int} {M M' : MI} {r : Int} 
    (h : f_X8_gcd n a0 a1 M = some (r, M'))
    (kr : ∀ (pc : Nat) (ls : Array Slot) (H : Heap) (locs : List Loc), decode cX8_gcd pc = .ok (.ireturn, 1) → wH G A s.heap s (LL adr) (wf G adr (tm M')) H locs → W p l e { frames := 5, cells := 0, slots := 0, locals := 133 } s m args below meth c H locs 0 0 Q (F0 m pc ls [.int (Int32.ofInt r)]))
    {ls : Array Slot} {H : Heap} {locs : List Loc} (hl : lv_has ls 3 [(0, .ref (adr 36)), (1, .int (Int32.ofInt a0)), (2, .int (Int32.ofInt a1))]) (hw : wH G A s.heap s (LL adr) (wf G adr (tm M)) H locs) : W p l e { frames := 5, cells := 0, slots := 0, locals := 133 } s m args below meth c H locs 0 0 Q (F0 m 0 ls []) := by
  obtain ⟨hx, hb, -, -, hown, hts, -⟩ := id cx
  have hown : s.vm.findClass RX8 = some m.cls := hown
  unfold f_X8_gcd at h
  refine lv_aload_n hx hb dX8_gcd_0 rfl (lv_at hl 0 rfl) ?_
  refine lv_iload_n hx hb dX8_gcd_1 rfl (lv_at hl 1 rfl) ?_
  refine lv_iload_n hx hb dX8_gcd_2 rfl (lv_at hl 2 rfl) ?_
  replace h := bnd h
  obtain ⟨⟨v1, M2⟩, e1, h⟩ := h
  refine m_callVi (k := 36) (As := [.int (Int32.ofInt a0), .int (Int32.ofInt a1)]) (rest := []) cx.fix hi hw (cc_X8_refuses (l := l) (G := G) (sz := H.size) hi e1) (by decide) rfl rfl (w_cV 2 hts q_214 q_215 q_216 q_217 q_218 rfl rfl (by decide) (by decide)) hl.1 rfl (lv_room (Nat.le_of_ble_eq_true rfl)) dX8_gcd_3 (fun H locs hw => ?_)
  replace h := bnd h
  obtain ⟨_, hg, h⟩ := h
  refine o_if_eq (tgt := 11) hx hb hg dX8_gcd_6 (by decide) (fun hc => ?_) (fun hc => ?_)
  · replace h := ite_t hc h
    refine lv_aload_n hx hb dX8_gcd_11 rfl (lv_at hl 0 rfl) ?_
    refine lv_iconst (v := Int32.ofInt (0)) hx hb dX8_gcd_12 rfl ?_
    replace h := bnd h
    obtain ⟨⟨v3, M4⟩, e3, h⟩ := h
    refine m_callVl (k := 36) (As := [.int (Int32.ofInt (0))]) (rest := []) cx.fix hi hw (cc_X8_primitive (l := l) (G := G) (sz := H.size) hi e3) (by decide) rfl rfl (w_cV 1 hts q_64 q_65 q_66 q_67 q_68 rfl rfl (by decide) (by decide)) hl.1 rfl (lv_room (Nat.le_of_ble_eq_true rfl)) dX8_gcd_13 (fun H locs hw => ?_)
    refine lv_pop2_2 hx hb dX8_gcd_16 rfl ?_
    refine lv_aload_n hx hb dX8_gcd_17 rfl (lv_at hl 0 rfl) ?_
    refine lv_iconst (v := Int32.ofInt (1)) hx hb dX8_gcd_18 rfl ?_
    replace h := bnd h
    obtain ⟨⟨v5, M6⟩, e5, h⟩ := h
    refine m_callVl (k := 36) (As := [.int (Int32.ofInt (1))]) (rest := []) cx.fix hi hw (cc_X8_primitive (l := l) (G := G) (sz := H.size) hi e5) (by decide) rfl rfl (w_cV 1 hts q_64 q_65 q_66 q_67 q_68 rfl rfl (by decide) (by decide)) hl.1 rfl (lv_room (Nat.le_of_ble_eq_true rfl)) dX8_gcd_19 (fun H locs hw => ?_)
    refine lv_pop2_2 hx hb dX8_gcd_22 rfl ?_
    refine lv_aload_n hx hb dX8_gcd_23 rfl (lv_at hl 0 rfl) ?_
    refine m_get (k := 36) (C := RX8) (T := TX8) (N := 18) (ref := "LiftFactorsModel") (v := .ref (adr 42)) hx hb hi hts inX8_u hown hw (by decide) rfl 8 (by decide) q_1 rfl rfl dX8_gcd_24 ?_
    refine lv_iconst (v := Int32.ofInt (0)) hx hb dX8_gcd_27 rfl ?_
    replace h := bnd h
    obtain ⟨v7, e7, h⟩ := h
    refine o_iald hx hb hi hw e7 dX8_gcd_28 ?_
    replace h := bnd h
    obtain ⟨M12, j19, h⟩ := h
    have kj : ∀ (ls : Array Slot) (H : Heap) (locs : List Loc), lv_has ls 3 [(0, .ref (adr 36))] → wH G A s.heap s (LL adr) (wf G adr (tm M12)) H locs → W p l e { frames := 5, cells := 0, slots := 0, locals := 133 } s m args below meth c H locs 0 0 Q (F0 m 59 ls []) := by
      intro ls H locs hl hw
      refine lv_aload_n hx hb dX8_gcd_59 rfl (lv_at hl 0 rfl) ?_
      refine lv_bipush (v := Int32.ofInt (11)) hx hb dX8_gcd_60 rfl ?_
      replace h := bnd h
      obtain ⟨v13, e13, h⟩ := h
      refine m_callVi (k := 36) (As := [.int (Int32.ofInt (11))]) (rest := []) cx.fix hi hw (cc_X8_great (l := l) (G := G) (sz := H.size) hi e13) (by decide) rfl rfl (w_cV 1 hts q_197 q_198 q_199 q_200 q_201 rfl rfl (by decide) (by decide)) hl.1 rfl (lv_room (Nat.le_of_ble_eq_true rfl)) dX8_gcd_62 (fun H locs hw => ?_)
      replace h := bnd h
      obtain ⟨⟨M16, v17⟩, j18, h⟩ := h
      have kj : ∀ (ls : Array Slot) (H : Heap) (locs : List Loc), lv_has ls 3 [] → wH G A s.heap s (LL adr) (wf G adr (tm M16)) H locs → W p l e { frames := 5, cells := 0, slots := 0, locals := 133 } s m args below meth c H locs 0 0 Q (F0 m 78 ls [.int (Int32.ofInt v17)]) := by
        intro ls H locs hl hw
        cases h
        exact kr _ _ _ _ dX8_gcd_78 hw
      clear h
      replace h := j18
      clear j18
      replace h := bnd h
      obtain ⟨_, hg, h⟩ := h
      refine o_if_eq (tgt := 72) hx hb hg dX8_gcd_65 (by decide) (fun hc => ?_) (fun hc => ?_)
      · replace h := ite_t hc h
        refine lv_aload_n hx hb dX8_gcd_72 rfl (lv_at hl 0 rfl) ?_
        refine lv_bipush (v := Int32.ofInt (11)) hx hb dX8_gcd_73 rfl ?_
        replace h := bnd h
        obtain ⟨⟨v14, M15⟩, e14, h⟩ := h
        refine m_callVi (k := 36) (As := [.int (Int32.ofInt (11))]) (rest := []) cx.fix hi hw (cc_X8_store (l := l) (G := G) (sz := H.size) hi e14) (by decide) rfl rfl (w_cV 1 hts q_204 q_205 q_206 q_207 q_208 rfl rfl (by decide) (by decide)) hl.1 rfl (lv_room (Nat.le_of_ble_eq_true rfl)) dX8_gcd_75 (fun H locs hw => ?_)
        cases h
        exact kj _ _ _ (lv_sub hl [] rfl) hw
      · replace h := ite_f hc h
        refine lv_iconst (v := Int32.ofInt (-1)) hx hb dX8_gcd_68 rfl ?_
        refine lv_goto (tgt := 78) hx hb dX8_gcd_69 (by decide) ?_
        cases h
        exact kj _ _ _ (lv_sub hl [] rfl) hw
    clear h
    replace h := j19
    clear j19
    replace h := bnd h
    obtain ⟨_, hg, h⟩ := h
    refine o_if_ge (tgt := 51) hx hb hg dX8_gcd_29 (by decide) (fun hc => ?_) (fun hc => ?_)
    · replace h := ite_t hc h
      refine lv_aload_n hx hb dX8_gcd_51 rfl (lv_at hl 0 rfl) ?_
      refine lv_iconst (v := Int32.ofInt (0)) hx hb dX8_gcd_52 rfl ?_
      refine lv_iconst (v := Int32.ofInt (1)) hx hb dX8_gcd_53 rfl ?_
      refine lv_bipush (v := Int32.ofInt (11)) hx hb dX8_gcd_54 rfl ?_
      replace h := bnd h
      obtain ⟨v8, e8, h⟩ := h
      refine m_callVv (k := 36) (As := [.int (Int32.ofInt (0)), .int (Int32.ofInt (1)), .int (Int32.ofInt (11))]) (rest := []) cx.fix hi hw (cc_X8_commonWhole (l := l) (G := G) (sz := H.size) hi e8) (by decide) rfl rfl (w_cV 3 hts q_161 q_162 q_163 q_164 q_165 rfl rfl (by decide) (by decide)) hl.1 rfl (lv_room (Nat.le_of_ble_eq_true rfl)) dX8_gcd_56 (fun H locs hw => ?_)
      cases h
      exact kj _ _ _ (lv_sub hl [0] rfl) hw
    · replace h := ite_f hc h
      refine lv_aload_n hx hb dX8_gcd_32 rfl (lv_at hl 0 rfl) ?_
      refine m_get (k := 36) (C := RX8) (T := TX8) (N := 18) (ref := "LiftFactorsModel") (v := .ref (adr 42)) hx hb hi hts inX8_u hown hw (by decide) rfl 8 (by decide) q_1 rfl rfl dX8_gcd_33 ?_
      refine lv_iconst (v := Int32.ofInt (1)) hx hb dX8_gcd_36 rfl ?_
      replace h := bnd h
      obtain ⟨v9, e9, h⟩ := h
      refine o_iald hx hb hi hw e9 dX8_gcd_37 ?_
      replace h := bnd h
      obtain ⟨_, hg, h⟩ := h
      refine o_if_ge (tgt := 51) hx hb hg dX8_gcd_38 (by decide) (fun hc => ?_) (fun hc => ?_)
      · replace h := ite_t hc h
        refine lv_aload_n hx hb dX8_gcd_51 rfl (lv_at hl 0 rfl) ?_
        refine lv_iconst (v := Int32.ofInt (0)) hx hb dX8_gcd_52 rfl ?_
        refine lv_iconst (v := Int32.ofInt (1)) hx hb dX8_gcd_53 rfl ?_
        refine lv_bipush (v := Int32.ofInt (11)) hx hb dX8_gcd_54 rfl ?_
        replace h := bnd h
        obtain ⟨v10, e10, h⟩ := h
        refine m_callVv (k := 36) (As := [.int (Int32.ofInt (0)), .int (Int32.ofInt (1)), .int (Int32.ofInt (11))]) (rest := []) cx.fix hi hw (cc_X8_commonWhole (l := l) (G := G) (sz := H.size) hi e10) (by decide) rfl rfl (w_cV 3 hts q_161 q_162 q_163 q_164 q_165 rfl rfl (by decide) (by decide)) hl.1 rfl (lv_room (Nat.le_of_ble_eq_true rfl)) dX8_gcd_56 (fun H locs hw => ?_)
        cases h
        exact kj _ _ _ (lv_sub hl [0] rfl) hw
      · replace h := ite_f hc h
        refine lv_aload_n hx hb dX8_gcd_41 rfl (lv_at hl 0 rfl) ?_
        refine lv_iconst (v := Int32.ofInt (0)) hx hb dX8_gcd_42 rfl ?_
        refine lv_bipush (v := Int32.ofInt (11)) hx hb dX8_gcd_43 rfl ?_
        replace h := bnd h
        obtain ⟨v11, e11, h⟩ := h
        refine m_callVv (k := 36) (As := [.int (Int32.ofInt (0)), .int (Int32.ofInt (11))]) (rest := []) cx.fix hi hw (cc_X8_copy (l := l) (G := G) (sz := H.size) hi e11) (by decide) rfl rfl (w_cV 2 hts q_24 q_25 q_26 q_27 q_28 rfl rfl (by decide) (by decide)) hl.1 rfl (lv_room (Nat.le_of_ble_eq_true rfl)) dX8_gcd_45 (fun H locs hw => ?_)
        refine lv_goto (tgt := 59) hx hb dX8_gcd_48 (by decide) ?_
        cases h
        exact kj _ _ _ (lv_sub hl [0] rfl) hw
  · replace h := ite_f hc h
    refine lv_iconst (v := Int32.ofInt (0)) hx hb dX8_gcd_9 rfl ?_
    cases h
    exact kr _ _ _ _ dX8_gcd_10 hw
theorem cc_X8_gcd {l : Launch} {G : gG} {adr : Nat → Nat} {sz : Nat} (hi : adi adr) {n : Nat} {a0 : Int} {a1 : Int} {M M' : MI} {r : Int} (h : f_X8_gcd n a0 a1 M = some (r, M')) : mI l yX8_gcd cX8_gcd 3 (some .int) { frames := 5, cells := 0, slots := 0, locals := 133 } G adr [.ref (adr 36), .int (Int32.ofInt a0), .int (Int32.ofInt a1)] (tm M) sz (Int32.ofInt r) (tm M') := by
  refine wEnter (by decide) (Nat.le_of_ble_eq_true rfl) ?_
  intro p e s m below meth c ls cx hinit hl hsz hw
  exact b_X8_gcd cx hi h (fun pc ls H locs hd hw => w_iret (post := fun (r9 : Int32) (u : Mem) => r9 = Int32.ofInt r ∧ u = tm M') (lf := fun u => (LL adr, wf G adr u)) cx.1 cx.2.1 cx.2.2.1 cx.2.2.2.2.2.2 (tm M') hw ⟨rfl, rfl⟩ hd) hl hw
def f_X8_content (n : Nat) (a0 : Int) (M : MI) : Option (Int × MI) :=
  Option.bind (f_X8_isPoly a0) fun v1 =>
  Option.bind (
    Option.bind (gI v1 0) fun _ =>
    if v1 = 0 then
      some (1)
    else
      some (0)) fun v2 =>
  Option.bind (opI M 36 3 v2) fun v3 =>
  Option.bind (gI (v3.2 36 3) 0) fun _ =>
  if (v3.2 36 3) = 0 then
    Option.bind (f_X8_load n a0 (0) v3) fun v4 =>
    Option.bind (f_X8_primitive n (0) v4) fun (v5, M6) =>
    Option.bind (gJ v5 0) fun v7 =>
    some (v5, M6)
  else
    some ((0), v3)
set_option maxRecDepth 100000 in
set_option maxHeartbeats 8000000 in
theorem b_X8_content {p : Program} {l : Launch} {e : Env} {s : State} {m : MethodId} {args : Array Value} {below : List Frame} {meth : Method} {c : Code} {Q : State → Prop} {G : gG} {A : Nat → Prop} {adr : Nat → Nat} (cx : cX p s m args meth c cX8_content (some .int) 2 yX8_content.cls) (hi : adi adr) {n : Nat} {a0 : Int} {M M' : MI} {r : Int} 
    (h : f_X8_content n a0 M = some (r, M'))
    (kr : ∀ (pc : Nat) (ls : Array Slot) (H : Heap) (locs : List Loc), decode cX8_content pc = .ok (.ireturn, 1) → wH G A s.heap s (LL adr) (wf G adr (tm M')) H locs → W p l e { frames := 3, cells := 0, slots := 0, locals := 74 } s m args below meth c H locs 0 0 Q (F0 m pc ls [.int (Int32.ofInt r)]))
    {ls : Array Slot} {H : Heap} {locs : List Loc} (hl : lv_has ls 2 [(0, .ref (adr 36)), (1, .int (Int32.ofInt a0))]) (hw : wH G A s.heap s (LL adr) (wf G adr (tm M)) H locs) : W p l e { frames := 3, cells := 0, slots := 0, locals := 74 } s m args below meth c H locs 0 0 Q (F0 m 0 ls []) := by
  obtain ⟨hx, hb, -, -, hown, hts, -⟩ := id cx
  have hown : s.vm.findClass RX8 = some m.cls := hown
  unfold f_X8_content at h
  refine lv_aload_n hx hb dX8_content_0 rfl (lv_at hl 0 rfl) ?_
  refine lv_iload_n hx hb dX8_content_1 rfl (lv_at hl 1 rfl) ?_
  replace h := bnd h
  obtain ⟨v1, e1, h⟩ := h
  refine m_callSi (As := [.int (Int32.ofInt a0)]) (rest := [.ref (adr 36)]) cx.fix hw (cc_X8_isPoly (l := l) (G := G) (sz := H.size) (M := M) hi e1) (w_cS 1 hts q_167 q_168 q_169 q_170 rfl rfl (by decide) (by decide)) hl.1 rfl (lv_room (Nat.le_of_ble_eq_true rfl)) dX8_content_2 (fun H locs hw => ?_)
  replace h := bnd h
  obtain ⟨v2, j8, h⟩ := h
  have kj : ∀ (ls : Array Slot) (H : Heap) (locs : List Loc), lv_has ls 2 [(0, .ref (adr 36)), (1, .int (Int32.ofInt a0))] → wH G A s.heap s (LL adr) (wf G adr (tm M)) H locs → W p l e { frames := 3, cells := 0, slots := 0, locals := 74 } s m args below meth c H locs 0 0 Q (F0 m 13 ls [.int (Int32.ofInt v2), .ref (adr 36)]) := by
    intro ls H locs hl hw
    replace h := bnd h
    obtain ⟨v3, e3, h⟩ := h
    refine o_putI (k := 36) (C := RX8) (T := TX8) (N := 18) (ref := "LiftFactorsModel") hx hb hi hts inX8_u tyX8 tyX8_ok nmX8 hown hw (by decide) rfl 3 (by decide) q_171 rfl rfl e3 (by decide +kernel) rfl dX8_content_13 (fun H locs hw => ?_)
    refine lv_aload_n hx hb dX8_content_16 rfl (lv_at hl 0 rfl) ?_
    refine m_get (k := 36) (C := RX8) (T := TX8) (N := 18) (ref := "LiftFactorsModel") (v := .int (Int32.ofInt (v3.2 36 3))) hx hb hi hts inX8_u hown hw (by decide) rfl 3 (by decide) q_171 rfl rfl dX8_content_17 ?_
    replace h := bnd h
    obtain ⟨_, hg, h⟩ := h
    refine o_if_eq (tgt := 25) hx hb hg dX8_content_20 (by decide) (fun hc => ?_) (fun hc => ?_)
    · replace h := ite_t hc h
      refine lv_aload_n hx hb dX8_content_25 rfl (lv_at hl 0 rfl) ?_
      refine lv_iload_n hx hb dX8_content_26 rfl (lv_at hl 1 rfl) ?_
      refine lv_iconst (v := Int32.ofInt (0)) hx hb dX8_content_27 rfl ?_
      replace h := bnd h
      obtain ⟨v4, e4, h⟩ := h
      refine m_callVv (k := 36) (As := [.int (Int32.ofInt a0), .int (Int32.ofInt (0))]) (rest := []) cx.fix hi hw (cc_X8_load (l := l) (G := G) (sz := H.size) hi e4) (by decide) rfl rfl (w_cV 2 hts q_172 q_173 q_174 q_175 q_176 rfl rfl (by decide) (by decide)) hl.1 rfl (lv_room (Nat.le_of_ble_eq_true rfl)) dX8_content_28 (fun H locs hw => ?_)
      refine lv_aload_n hx hb dX8_content_31 rfl (lv_at hl 0 rfl) ?_
      refine lv_iconst (v := Int32.ofInt (0)) hx hb dX8_content_32 rfl ?_
      replace h := bnd h
      obtain ⟨⟨v5, M6⟩, e5, h⟩ := h
      refine m_callVl (k := 36) (As := [.int (Int32.ofInt (0))]) (rest := []) cx.fix hi hw (cc_X8_primitive (l := l) (G := G) (sz := H.size) hi e5) (by decide) rfl rfl (w_cV 1 hts q_64 q_65 q_66 q_67 q_68 rfl rfl (by decide) (by decide)) hl.1 rfl (lv_room (Nat.le_of_ble_eq_true rfl)) dX8_content_33 (fun H locs hw => ?_)
      replace h := bnd h
      obtain ⟨v7, e7, h⟩ := h
      refine o_l2i hx hb e7 dX8_content_36 ?_
      cases h
      exact kr _ _ _ _ dX8_content_37 hw
    · replace h := ite_f hc h
      refine lv_iconst (v := Int32.ofInt (0)) hx hb dX8_content_23 rfl ?_
      cases h
      exact kr _ _ _ _ dX8_content_24 hw
  clear h
  replace h := j8
  clear j8
  replace h := bnd h
  obtain ⟨_, hg, h⟩ := h
  refine o_if_eq (tgt := 12) hx hb hg dX8_content_5 (by decide) (fun hc => ?_) (fun hc => ?_)
  · replace h := ite_t hc h
    refine lv_iconst (v := Int32.ofInt (1)) hx hb dX8_content_12 rfl ?_
    cases h
    exact kj _ _ _ (lv_sub hl [0, 1] rfl) hw
  · replace h := ite_f hc h
    refine lv_iconst (v := Int32.ofInt (0)) hx hb dX8_content_8 rfl ?_
    refine lv_goto (tgt := 13) hx hb dX8_content_9 (by decide) ?_
    cases h
    exact kj _ _ _ (lv_sub hl [0, 1] rfl) hw
theorem cc_X8_content {l : Launch} {G : gG} {adr : Nat → Nat} {sz : Nat} (hi : adi adr) {n : Nat} {a0 : Int} {M M' : MI} {r : Int} (h : f_X8_content n a0 M = some (r, M')) : mI l yX8_content cX8_content 2 (some .int) { frames := 3, cells := 0, slots := 0, locals := 74 } G adr [.ref (adr 36), .int (Int32.ofInt a0)] (tm M) sz (Int32.ofInt r) (tm M') := by
  refine wEnter (by decide) (Nat.le_of_ble_eq_true rfl) ?_
  intro p e s m below meth c ls cx hinit hl hsz hw
  exact b_X8_content cx hi h (fun pc ls H locs hd hw => w_iret (post := fun (r9 : Int32) (u : Mem) => r9 = Int32.ofInt r ∧ u = tm M') (lf := fun u => (LL adr, wf G adr u)) cx.1 cx.2.1 cx.2.2.1 cx.2.2.2.2.2.2 (tm M') hw ⟨rfl, rfl⟩ hd) hl hw
