theorem q_96 : Cond.methodLink RX8 132 yX8_letter ∈ uU := uU_in (by decide +kernel) (by decide +kernel)
theorem q_97 : Cond.instanceMethod yX8_letter ∈ uU := uU_in (by decide +kernel) (by decide +kernel)
theorem q_98 : Cond.selects yX8_letter.cls yX8_letter yX8_letter ∈ uU := uU_in (by decide +kernel) (by decide +kernel)
theorem q_99 : Cond.initialized yX8_letter.cls ∈ uU := uU_in (by decide +kernel) (by decide +kernel)
theorem q_100 : Cond.code yX8_letter cX8_letter 2 none ∈ uU := uU_in (by decide +kernel) (by decide +kernel)
theorem q_101 : Cond.methodLink RX8 135 yX8_addConstant ∈ uU := uU_in (by decide +kernel) (by decide +kernel)
theorem q_102 : Cond.instanceMethod yX8_addConstant ∈ uU := uU_in (by decide +kernel) (by decide +kernel)
theorem q_103 : Cond.selects yX8_addConstant.cls yX8_addConstant yX8_addConstant ∈ uU := uU_in (by decide +kernel) (by decide +kernel)
theorem q_104 : Cond.initialized yX8_addConstant.cls ∈ uU := uU_in (by decide +kernel) (by decide +kernel)
theorem q_105 : Cond.code yX8_addConstant cX8_addConstant 4 none ∈ uU := uU_in (by decide +kernel) (by decide +kernel)
theorem q_106 : Cond.methodLink RX8 138 yX8_raise ∈ uU := uU_in (by decide +kernel) (by decide +kernel)
theorem q_107 : Cond.instanceMethod yX8_raise ∈ uU := uU_in (by decide +kernel) (by decide +kernel)
theorem q_108 : Cond.selects yX8_raise.cls yX8_raise yX8_raise ∈ uU := uU_in (by decide +kernel) (by decide +kernel)
theorem q_109 : Cond.initialized yX8_raise.cls ∈ uU := uU_in (by decide +kernel) (by decide +kernel)
theorem q_110 : Cond.code yX8_raise cX8_raise 8 none ∈ uU := uU_in (by decide +kernel) (by decide +kernel)
def l_X8_splits_23 (n : Nat) (a0 : Int) (a1 : Int) (a2 : Int) : MI × Int → Option ((MI) ⊕ (MI × Int)) := fun (M4, v5) =>
  Option.bind (gI v5 a1) fun _ =>
  if a1 ≤ v5 then
    some (.inl M4)
  else
    Option.bind (f_X8_copy n (14) (13) M4) fun v6 =>
    Option.bind (f_X8_addConstant n (13) a2 v6) fun v7 =>
    Option.bind (f_X8_multiply n (15) (13) a0 (15) v7) fun v8 =>
    Option.bind (f_X8_copy n (14) (16) v8) fun v9 =>
    Option.bind (
      Option.bind (gI (v5 + (1)) a1) fun _ =>
      if a1 ≤ (v5 + (1)) then
        some v9
      else
        Option.bind (f_X8_raise n (16) (v9.1 36 9) a0 (14) v9) fun v10 =>
        some v10) fun M11 =>
    some (.inr (M11, v5 + 1))
def f_X8_splits (n : Nat) (a0 : Int) (a1 : Int) (a2 : Int) (M : MI) : Option (Int × MI) :=
  Option.bind (f_X8_constant (15) (1) M) fun v1 =>
  Option.bind (f_X8_letter (14) v1) fun v2 =>
  Option.bind (f_X8_rest n (14) a0 v2) fun v3 =>
  Option.bind (lpF (l_X8_splits_23 n a0 a1 a2) n (v3, (0))) fun M14 =>
  Option.bind (oqJ ((M14.1 36 9) - (1)) (2)) fun v15 =>
  Option.bind (f_X8_raise n (15) v15 a0 (16) M14) fun v16 =>
  Option.bind (f_X8_addConstant n (16) ((v16.1 36 9) - (1)) v16) fun v17 =>
  Option.bind (f_X8_copy n a0 (20) v17) fun v18 =>
  Option.bind (odI v18 42 (16)) fun v19 =>
  Option.bind (gI v19 0) fun _ =>
  if 0 ≤ v19 then
    Option.bind (f_X8_commonRow n (20) (16) (13) v18) fun v20 =>
    Option.bind (odI v20 42 (13)) fun v21 =>
    Option.bind (
      Option.bind (gI v21 0) fun _ =>
      if v21 ≤ 0 then
        some (0)
      else
        Option.bind (odI v20 42 (13)) fun v22 =>
        Option.bind (odI v20 42 a0) fun v23 =>
        Option.bind (gI v22 v23) fun _ =>
        if v23 ≤ v22 then
          some (0)
        else
          some (1)) fun v24 =>
    Option.bind (obz v24) fun v25 =>
    some (v25, v20)
  else
    some ((0), v18)
set_option maxRecDepth 100000 in
set_option maxHeartbeats 8000000 in
theorem b_X8_splits {p : Program} {l : Launch} {e : Env} {s : State} {m : MethodId} {args : Array Value} {below : List Frame} {meth : Method} {c : Code} {Q : State → Prop} {G : gG} {A : Nat → Prop} {adr : Nat → Nat} (cx : cX p s m args meth c cX8_splits (some .boolean) 6 yX8_splits.cls) (hi : adi adr) {n : Nat} {a0 : Int} {a1 : Int} {a2 : Int} {M M' : MI} {r : Int} 
    (h : f_X8_splits n a0 a1 a2 M = some (r, M'))
    (kr : ∀ (pc : Nat) (ls : Array Slot) (H : Heap) (locs : List Loc), decode cX8_splits pc = .ok (.ireturn, 1) → narrow .boolean (.int (Int32.ofInt r)) = .int (Int32.ofInt r) → wH G A s.heap s (LL adr) (wf G adr (tm M')) H locs → W p l e { frames := 4, cells := 0, slots := 0, locals := 111 } s m args below meth c H locs 0 0 Q (F0 m pc ls [.int (Int32.ofInt r)]))
    {ls : Array Slot} {H : Heap} {locs : List Loc} (hl : lv_has ls 6 [(0, .ref (adr 36)), (1, .int (Int32.ofInt a0)), (2, .int (Int32.ofInt a1)), (3, .long (Int64.ofInt a2))]) (hw : wH G A s.heap s (LL adr) (wf G adr (tm M)) H locs) : W p l e { frames := 4, cells := 0, slots := 0, locals := 111 } s m args below meth c H locs 0 0 Q (F0 m 0 ls []) := by
  obtain ⟨hx, hb, -, -, hown, hts, -⟩ := id cx
  have hown : s.vm.findClass RX8 = some m.cls := hown
  unfold f_X8_splits at h
  refine lv_aload_n hx hb dX8_splits_0 rfl (lv_at hl 0 rfl) ?_
  refine lv_bipush (v := Int32.ofInt (15)) hx hb dX8_splits_1 rfl ?_
  refine lv_lconst (v := Int64.ofInt (1)) hx hb dX8_splits_3 (by decide) ?_
  replace h := bnd h
  obtain ⟨v1, e1, h⟩ := h
  refine m_callVv (k := 36) (As := [.int (Int32.ofInt (15)), .long (Int64.ofInt (1))]) (rest := []) cx.fix hi hw (cc_X8_constant (l := l) (G := G) (sz := H.size) hi e1) (by decide) rfl rfl (w_cV 2 hts q_47 q_48 q_49 q_50 q_51 rfl rfl (by decide) (by decide)) hl.1 rfl (lv_room (Nat.le_of_ble_eq_true rfl)) dX8_splits_4 (fun H locs hw => ?_)
  refine lv_aload_n hx hb dX8_splits_7 rfl (lv_at hl 0 rfl) ?_
  refine lv_bipush (v := Int32.ofInt (14)) hx hb dX8_splits_8 rfl ?_
  replace h := bnd h
  obtain ⟨v2, e2, h⟩ := h
  refine m_callVv (k := 36) (As := [.int (Int32.ofInt (14))]) (rest := []) cx.fix hi hw (cc_X8_letter (l := l) (G := G) (sz := H.size) hi e2) (by decide) rfl rfl (w_cV 1 hts q_96 q_97 q_98 q_99 q_100 rfl rfl (by decide) (by decide)) hl.1 rfl (lv_room (Nat.le_of_ble_eq_true rfl)) dX8_splits_10 (fun H locs hw => ?_)
  refine lv_aload_n hx hb dX8_splits_13 rfl (lv_at hl 0 rfl) ?_
  refine lv_bipush (v := Int32.ofInt (14)) hx hb dX8_splits_14 rfl ?_
  refine lv_iload_n hx hb dX8_splits_16 rfl (lv_at hl 1 rfl) ?_
  replace h := bnd h
  obtain ⟨v3, e3, h⟩ := h
  refine m_callVv (k := 36) (As := [.int (Int32.ofInt (14)), .int (Int32.ofInt a0)]) (rest := []) cx.fix hi hw (cc_X8_rest (l := l) (G := G) (sz := H.size) hi e3) (by decide) rfl rfl (w_cV 2 hts q_42 q_43 q_44 q_45 q_46 rfl rfl (by decide) (by decide)) hl.1 rfl (lv_room (Nat.le_of_ble_eq_true rfl)) dX8_splits_17 (fun H locs hw => ?_)
  refine lv_iconst (v := Int32.ofInt (0)) hx hb dX8_splits_20 rfl ?_
  refine lv_istore (lv' := [(5, .int (Int32.ofInt (0))), (0, .ref (adr 36)), (1, .int (Int32.ofInt a0)), (2, .int (Int32.ofInt a1)), (3, .long (Int64.ofInt a2))]) hx hb dX8_splits_21 hl (by decide) rfl (fun ls hl => ?_)
  replace h := bnd h
  obtain ⟨M14, j13, h⟩ := h
  refine lp_W (Wst := fun (st : MI × Int) => ∀ (ls : Array Slot) (H : Heap) (locs : List Loc), lv_has ls 6 [(0, .ref (adr 36)), (1, .int (Int32.ofInt a0)), (2, .int (Int32.ofInt a1)), (3, .long (Int64.ofInt a2)), (5, .int (Int32.ofInt st.2))] → wH G A s.heap s (LL adr) (wf G adr (tm st.1)) H locs → W p l e { frames := 4, cells := 0, slots := 0, locals := 111 } s m args below meth c H locs 0 0 Q (F0 m 23 ls [])) (fin := fun (r : MI) => ∀ (ls : Array Slot) (H : Heap) (locs : List Loc), lv_has ls 6 [(0, .ref (adr 36)), (1, .int (Int32.ofInt a0))] → wH G A s.heap s (LL adr) (wf G adr (tm r)) H locs → W p l e { frames := 4, cells := 0, slots := 0, locals := 111 } s m args below meth c H locs 0 0 Q (F0 m 90 ls [])) ?_ n _ _ j13 ?_ _ _ _ (lv_sub hl [1, 2, 3, 4, 0] rfl) hw
  · clear h j13 hw hl
    intro ⟨M4, v5⟩ x h k1 k2 ls H locs hl hw
    (try dsimp only at k1 k2 hl hw ⊢)
    unfold l_X8_splits_23 at h
    (try dsimp only at h)
    refine lv_iload hx hb dX8_splits_23 (lv_at hl 4 rfl) ?_
    refine lv_iload_n hx hb dX8_splits_25 rfl (lv_at hl 2 rfl) ?_
    replace h := bnd h
    obtain ⟨_, hg, h⟩ := h
    refine o_icmp_ge (tgt := 90) hx hb hg dX8_splits_26 (by decide) (fun hc => ?_) (fun hc => ?_)
    · replace h := ite_t hc h
      cases h
      exact k1 _ rfl _ _ _ (lv_sub hl [0, 1] rfl) hw
    · replace h := ite_f hc h
      refine lv_aload_n hx hb dX8_splits_29 rfl (lv_at hl 0 rfl) ?_
      refine lv_bipush (v := Int32.ofInt (14)) hx hb dX8_splits_30 rfl ?_
      refine lv_bipush (v := Int32.ofInt (13)) hx hb dX8_splits_32 rfl ?_
      replace h := bnd h
      obtain ⟨v6, e6, h⟩ := h
      refine m_callVv (k := 36) (As := [.int (Int32.ofInt (14)), .int (Int32.ofInt (13))]) (rest := []) cx.fix hi hw (cc_X8_copy (l := l) (G := G) (sz := H.size) hi e6) (by decide) rfl rfl (w_cV 2 hts q_24 q_25 q_26 q_27 q_28 rfl rfl (by decide) (by decide)) hl.1 rfl (lv_room (Nat.le_of_ble_eq_true rfl)) dX8_splits_34 (fun H locs hw => ?_)
      refine lv_aload_n hx hb dX8_splits_37 rfl (lv_at hl 0 rfl) ?_
      refine lv_bipush (v := Int32.ofInt (13)) hx hb dX8_splits_38 rfl ?_
      refine lv_lload_n hx hb dX8_splits_40 rfl (lv_at hl 3 rfl) ?_
      replace h := bnd h
      obtain ⟨v7, e7, h⟩ := h
      refine m_callVv (k := 36) (As := [.int (Int32.ofInt (13)), .long (Int64.ofInt a2)]) (rest := []) cx.fix hi hw (cc_X8_addConstant (l := l) (G := G) (sz := H.size) hi e7) (by decide) rfl rfl (w_cV 2 hts q_101 q_102 q_103 q_104 q_105 rfl rfl (by decide) (by decide)) hl.1 rfl (lv_room (Nat.le_of_ble_eq_true rfl)) dX8_splits_41 (fun H locs hw => ?_)
      refine lv_aload_n hx hb dX8_splits_44 rfl (lv_at hl 0 rfl) ?_
      refine lv_bipush (v := Int32.ofInt (15)) hx hb dX8_splits_45 rfl ?_
      refine lv_bipush (v := Int32.ofInt (13)) hx hb dX8_splits_47 rfl ?_
      refine lv_iload_n hx hb dX8_splits_49 rfl (lv_at hl 1 rfl) ?_
      refine lv_bipush (v := Int32.ofInt (15)) hx hb dX8_splits_50 rfl ?_
      replace h := bnd h
      obtain ⟨v8, e8, h⟩ := h
      refine m_callVv (k := 36) (As := [.int (Int32.ofInt (15)), .int (Int32.ofInt (13)), .int (Int32.ofInt a0), .int (Int32.ofInt (15))]) (rest := []) cx.fix hi hw (cc_X8_multiply (l := l) (G := G) (sz := H.size) hi e8) (by decide) rfl rfl (w_cV 4 hts q_52 q_53 q_54 q_55 q_56 rfl rfl (by decide) (by decide)) hl.1 rfl (lv_room (Nat.le_of_ble_eq_true rfl)) dX8_splits_52 (fun H locs hw => ?_)
      refine lv_aload_n hx hb dX8_splits_55 rfl (lv_at hl 0 rfl) ?_
      refine lv_bipush (v := Int32.ofInt (14)) hx hb dX8_splits_56 rfl ?_
      refine lv_bipush (v := Int32.ofInt (16)) hx hb dX8_splits_58 rfl ?_
      replace h := bnd h
      obtain ⟨v9, e9, h⟩ := h
      refine m_callVv (k := 36) (As := [.int (Int32.ofInt (14)), .int (Int32.ofInt (16))]) (rest := []) cx.fix hi hw (cc_X8_copy (l := l) (G := G) (sz := H.size) hi e9) (by decide) rfl rfl (w_cV 2 hts q_24 q_25 q_26 q_27 q_28 rfl rfl (by decide) (by decide)) hl.1 rfl (lv_room (Nat.le_of_ble_eq_true rfl)) dX8_splits_60 (fun H locs hw => ?_)
      refine lv_iload hx hb dX8_splits_63 (lv_at hl 4 rfl) ?_
      refine lv_iconst (v := Int32.ofInt (1)) hx hb dX8_splits_65 rfl ?_
      refine o_iadd hx hb dX8_splits_66 ?_
      refine lv_iload_n hx hb dX8_splits_67 rfl (lv_at hl 2 rfl) ?_
      replace h := bnd h
      obtain ⟨M11, j12, h⟩ := h
      have kj : ∀ (ls : Array Slot) (H : Heap) (locs : List Loc), lv_has ls 6 [(0, .ref (adr 36)), (1, .int (Int32.ofInt a0)), (2, .int (Int32.ofInt a1)), (3, .long (Int64.ofInt a2)), (5, .int (Int32.ofInt v5))] → wH G A s.heap s (LL adr) (wf G adr (tm M11)) H locs → W p l e { frames := 4, cells := 0, slots := 0, locals := 111 } s m args below meth c H locs 0 0 Q (F0 m 84 ls []) := by
        intro ls H locs hl hw
        refine lv_iinc (v := Int32.ofInt (v5 + 1)) (lv' := [(5, .int (Int32.ofInt (v5 + 1))), (0, .ref (adr 36)), (1, .int (Int32.ofInt a0)), (2, .int (Int32.ofInt a1)), (3, .long (Int64.ofInt a2))]) hx hb dX8_splits_84 hl (k := 4) rfl (inc_o _ _) (by decide) rfl (fun ls hl => ?_)
        refine lv_goto (tgt := 23) hx hb dX8_splits_87 (by decide) ?_
        cases h
        exact k2 _ rfl _ _ _ (lv_sub hl [1, 2, 3, 4, 0] rfl) hw
      clear h
      replace h := j12
      clear j12
      replace h := bnd h
      obtain ⟨_, hg, h⟩ := h
      refine o_icmp_ge (tgt := 84) hx hb hg dX8_splits_68 (by decide) (fun hc => ?_) (fun hc => ?_)
      · replace h := ite_t hc h
        cases h
        exact kj _ _ _ (lv_sub hl [0, 1, 2, 3, 4] rfl) hw
      · replace h := ite_f hc h
        refine lv_aload_n hx hb dX8_splits_71 rfl (lv_at hl 0 rfl) ?_
        refine lv_bipush (v := Int32.ofInt (16)) hx hb dX8_splits_72 rfl ?_
        refine lv_aload_n hx hb dX8_splits_74 rfl (lv_at hl 0 rfl) ?_
        refine m_get (k := 36) (C := RX8) (T := TX8) (N := 18) (ref := "LiftFactorsModel") (v := .long (Int64.ofInt (v9.1 36 9))) hx hb hi hts inX8_u hown hw (by decide) rfl 9 (by decide) q_29 rfl rfl dX8_splits_75 ?_
        refine lv_iload_n hx hb dX8_splits_78 rfl (lv_at hl 1 rfl) ?_
        refine lv_bipush (v := Int32.ofInt (14)) hx hb dX8_splits_79 rfl ?_
        replace h := bnd h
        obtain ⟨v10, e10, h⟩ := h
        refine m_callVv (k := 36) (As := [.int (Int32.ofInt (16)), .long (Int64.ofInt (v9.1 36 9)), .int (Int32.ofInt a0), .int (Int32.ofInt (14))]) (rest := []) cx.fix hi hw (cc_X8_raise (l := l) (G := G) (sz := H.size) hi e10) (by decide) rfl rfl (w_cV 4 hts q_106 q_107 q_108 q_109 q_110 rfl rfl (by decide) (by decide)) hl.1 rfl (lv_room (Nat.le_of_ble_eq_true rfl)) dX8_splits_81 (fun H locs hw => ?_)
        cases h
        exact kj _ _ _ (lv_sub hl [0, 1, 2, 3, 4] rfl) hw
  · clear hw hl
    intro ls H locs hl hw
    (try dsimp only at hl hw ⊢)
    refine lv_aload_n hx hb dX8_splits_90 rfl (lv_at hl 0 rfl) ?_
    refine lv_bipush (v := Int32.ofInt (15)) hx hb dX8_splits_91 rfl ?_
    refine lv_aload_n hx hb dX8_splits_93 rfl (lv_at hl 0 rfl) ?_
    refine m_get (k := 36) (C := RX8) (T := TX8) (N := 18) (ref := "LiftFactorsModel") (v := .long (Int64.ofInt (M14.1 36 9))) hx hb hi hts inX8_u hown hw (by decide) rfl 9 (by decide) q_29 rfl rfl dX8_splits_94 ?_
    refine lv_lconst (v := Int64.ofInt (1)) hx hb dX8_splits_97 (by decide) ?_
    refine o_lsub hx hb dX8_splits_98 ?_
    refine lv_ldc2 (v := Int64.ofInt (2)) hx hb hown (hts _ q_36) dX8_splits_99 ?_
    replace h := bnd h
    obtain ⟨v15, e15, h⟩ := h
    refine o_ldiv hx hb e15 dX8_splits_102 ?_
    refine lv_iload_n hx hb dX8_splits_103 rfl (lv_at hl 1 rfl) ?_
    refine lv_bipush (v := Int32.ofInt (16)) hx hb dX8_splits_104 rfl ?_
    replace h := bnd h
    obtain ⟨v16, e16, h⟩ := h
    refine m_callVv (k := 36) (As := [.int (Int32.ofInt (15)), .long (Int64.ofInt v15), .int (Int32.ofInt a0), .int (Int32.ofInt (16))]) (rest := []) cx.fix hi hw (cc_X8_raise (l := l) (G := G) (sz := H.size) hi e16) (by decide) rfl rfl (w_cV 4 hts q_106 q_107 q_108 q_109 q_110 rfl rfl (by decide) (by decide)) hl.1 rfl (lv_room (Nat.le_of_ble_eq_true rfl)) dX8_splits_106 (fun H locs hw => ?_)
    refine lv_aload_n hx hb dX8_splits_109 rfl (lv_at hl 0 rfl) ?_
    refine lv_bipush (v := Int32.ofInt (16)) hx hb dX8_splits_110 rfl ?_
    refine lv_aload_n hx hb dX8_splits_112 rfl (lv_at hl 0 rfl) ?_
    refine m_get (k := 36) (C := RX8) (T := TX8) (N := 18) (ref := "LiftFactorsModel") (v := .long (Int64.ofInt (v16.1 36 9))) hx hb hi hts inX8_u hown hw (by decide) rfl 9 (by decide) q_29 rfl rfl dX8_splits_113 ?_
    refine lv_lconst (v := Int64.ofInt (1)) hx hb dX8_splits_116 (by decide) ?_
    refine o_lsub hx hb dX8_splits_117 ?_
    replace h := bnd h
    obtain ⟨v17, e17, h⟩ := h
    refine m_callVv (k := 36) (As := [.int (Int32.ofInt (16)), .long (Int64.ofInt ((v16.1 36 9) - (1)))]) (rest := []) cx.fix hi hw (cc_X8_addConstant (l := l) (G := G) (sz := H.size) hi e17) (by decide) rfl rfl (w_cV 2 hts q_101 q_102 q_103 q_104 q_105 rfl rfl (by decide) (by decide)) hl.1 rfl (lv_room (Nat.le_of_ble_eq_true rfl)) dX8_splits_118 (fun H locs hw => ?_)
    refine lv_aload_n hx hb dX8_splits_121 rfl (lv_at hl 0 rfl) ?_
    refine lv_iload_n hx hb dX8_splits_122 rfl (lv_at hl 1 rfl) ?_
    refine lv_bipush (v := Int32.ofInt (20)) hx hb dX8_splits_123 rfl ?_
    replace h := bnd h
    obtain ⟨v18, e18, h⟩ := h
    refine m_callVv (k := 36) (As := [.int (Int32.ofInt a0), .int (Int32.ofInt (20))]) (rest := []) cx.fix hi hw (cc_X8_copy (l := l) (G := G) (sz := H.size) hi e18) (by decide) rfl rfl (w_cV 2 hts q_24 q_25 q_26 q_27 q_28 rfl rfl (by decide) (by decide)) hl.1 rfl (lv_room (Nat.le_of_ble_eq_true rfl)) dX8_splits_125 (fun H locs hw => ?_)
    refine lv_aload_n hx hb dX8_splits_128 rfl (lv_at hl 0 rfl) ?_
    refine m_get (k := 36) (C := RX8) (T := TX8) (N := 18) (ref := "LiftFactorsModel") (v := .ref (adr 42)) hx hb hi hts inX8_u hown hw (by decide) rfl 8 (by decide) q_1 rfl rfl dX8_splits_129 ?_
    refine lv_bipush (v := Int32.ofInt (16)) hx hb dX8_splits_132 rfl ?_
    replace h := bnd h
    obtain ⟨v19, e19, h⟩ := h
    refine o_iald hx hb hi hw e19 dX8_splits_134 ?_
    replace h := bnd h
    obtain ⟨_, hg, h⟩ := h
    refine o_if_ge (tgt := 140) hx hb hg dX8_splits_135 (by decide) (fun hc => ?_) (fun hc => ?_)
    · replace h := ite_t hc h
      refine lv_aload_n hx hb dX8_splits_140 rfl (lv_at hl 0 rfl) ?_
      refine lv_bipush (v := Int32.ofInt (20)) hx hb dX8_splits_141 rfl ?_
      refine lv_bipush (v := Int32.ofInt (16)) hx hb dX8_splits_143 rfl ?_
      refine lv_bipush (v := Int32.ofInt (13)) hx hb dX8_splits_145 rfl ?_
      replace h := bnd h
      obtain ⟨v20, e20, h⟩ := h
      refine m_callVv (k := 36) (As := [.int (Int32.ofInt (20)), .int (Int32.ofInt (16)), .int (Int32.ofInt (13))]) (rest := []) cx.fix hi hw (cc_X8_commonRow (l := l) (G := G) (sz := H.size) hi e20) (by decide) rfl rfl (w_cV 3 hts q_79 q_80 q_81 q_82 q_83 rfl rfl (by decide) (by decide)) hl.1 rfl (lv_room (Nat.le_of_ble_eq_true rfl)) dX8_splits_147 (fun H locs hw => ?_)
      refine lv_aload_n hx hb dX8_splits_150 rfl (lv_at hl 0 rfl) ?_
      refine m_get (k := 36) (C := RX8) (T := TX8) (N := 18) (ref := "LiftFactorsModel") (v := .ref (adr 42)) hx hb hi hts inX8_u hown hw (by decide) rfl 8 (by decide) q_1 rfl rfl dX8_splits_151 ?_
      refine lv_bipush (v := Int32.ofInt (13)) hx hb dX8_splits_154 rfl ?_
      replace h := bnd h
      obtain ⟨v21, e21, h⟩ := h
      refine o_iald hx hb hi hw e21 dX8_splits_156 ?_
      replace h := bnd h
      obtain ⟨v24, j26, h⟩ := h
      have kj : ∀ (ls : Array Slot) (H : Heap) (locs : List Loc), lv_has ls 6 [] → wH G A s.heap s (LL adr) (wf G adr (tm v20)) H locs → W p l e { frames := 4, cells := 0, slots := 0, locals := 111 } s m args below meth c H locs 0 0 Q (F0 m 181 ls [.int (Int32.ofInt v24)]) := by
        intro ls H locs hl hw
        replace h := bnd h
        obtain ⟨v25, eZ, h⟩ := h
        obtain ⟨rfl, eZ⟩ := obz_ok eZ
        cases h
        exact kr _ _ _ _ dX8_splits_181 eZ hw
      clear h
      replace h := j26
      clear j26
      replace h := bnd h
      obtain ⟨_, hg, h⟩ := h
      refine o_if_le (tgt := 180) hx hb hg dX8_splits_157 (by decide) (fun hc => ?_) (fun hc => ?_)
      · replace h := ite_t hc h
        refine lv_iconst (v := Int32.ofInt (0)) hx hb dX8_splits_180 rfl ?_
        cases h
        exact kj _ _ _ (lv_sub hl [] rfl) hw
      · replace h := ite_f hc h
        refine lv_aload_n hx hb dX8_splits_160 rfl (lv_at hl 0 rfl) ?_
        refine m_get (k := 36) (C := RX8) (T := TX8) (N := 18) (ref := "LiftFactorsModel") (v := .ref (adr 42)) hx hb hi hts inX8_u hown hw (by decide) rfl 8 (by decide) q_1 rfl rfl dX8_splits_161 ?_
        refine lv_bipush (v := Int32.ofInt (13)) hx hb dX8_splits_164 rfl ?_
        replace h := bnd h
        obtain ⟨v22, e22, h⟩ := h
        refine o_iald hx hb hi hw e22 dX8_splits_166 ?_
        refine lv_aload_n hx hb dX8_splits_167 rfl (lv_at hl 0 rfl) ?_
        refine m_get (k := 36) (C := RX8) (T := TX8) (N := 18) (ref := "LiftFactorsModel") (v := .ref (adr 42)) hx hb hi hts inX8_u hown hw (by decide) rfl 8 (by decide) q_1 rfl rfl dX8_splits_168 ?_
        refine lv_iload_n hx hb dX8_splits_171 rfl (lv_at hl 1 rfl) ?_
        replace h := bnd h
        obtain ⟨v23, e23, h⟩ := h
        refine o_iald hx hb hi hw e23 dX8_splits_172 ?_
        replace h := bnd h
        obtain ⟨_, hg, h⟩ := h
        refine o_icmp_ge (tgt := 180) hx hb hg dX8_splits_173 (by decide) (fun hc => ?_) (fun hc => ?_)
        · replace h := ite_t hc h
          refine lv_iconst (v := Int32.ofInt (0)) hx hb dX8_splits_180 rfl ?_
          cases h
          exact kj _ _ _ (lv_sub hl [] rfl) hw
        · replace h := ite_f hc h
          refine lv_iconst (v := Int32.ofInt (1)) hx hb dX8_splits_176 rfl ?_
          refine lv_goto (tgt := 181) hx hb dX8_splits_177 (by decide) ?_
          cases h
          exact kj _ _ _ (lv_sub hl [] rfl) hw
    · replace h := ite_f hc h
      refine lv_iconst (v := Int32.ofInt (0)) hx hb dX8_splits_138 rfl ?_
      cases h
      exact kr _ _ _ _ dX8_splits_139 nb0 hw
theorem cc_X8_splits {l : Launch} {G : gG} {adr : Nat → Nat} {sz : Nat} (hi : adi adr) {n : Nat} {a0 : Int} {a1 : Int} {a2 : Int} {M M' : MI} {r : Int} (h : f_X8_splits n a0 a1 a2 M = some (r, M')) : mI l yX8_splits cX8_splits 6 (some .boolean) { frames := 4, cells := 0, slots := 0, locals := 111 } G adr [.ref (adr 36), .int (Int32.ofInt a0), .int (Int32.ofInt a1), .long (Int64.ofInt a2)] (tm M) sz (Int32.ofInt r) (tm M') := by
  refine wEnter (by decide) (Nat.le_of_ble_eq_true rfl) ?_
  intro p e s m below meth c ls cx hinit hl hsz hw
  exact b_X8_splits cx hi h (fun pc ls H locs hd hz hw => w_zret (post := fun (r9 : Int32) (u : Mem) => r9 = Int32.ofInt r ∧ u = tm M') (lf := fun u => (LL adr, wf G adr u)) cx.1 cx.2.1 cx.2.2.1 cx.2.2.2.2.2.2 hz (tm M') hw ⟨rfl, rfl⟩ hd) hl hw
theorem q_111 : Cond.methodLink RX8 142 yX8_splits ∈ uU := uU_in (by decide +kernel) (by decide +kernel)
theorem q_112 : Cond.instanceMethod yX8_splits ∈ uU := uU_in (by decide +kernel) (by decide +kernel)
theorem q_113 : Cond.selects yX8_splits.cls yX8_splits yX8_splits ∈ uU := uU_in (by decide +kernel) (by decide +kernel)
theorem q_114 : Cond.initialized yX8_splits.cls ∈ uU := uU_in (by decide +kernel) (by decide +kernel)
theorem q_115 : Cond.code yX8_splits cX8_splits 6 (some .boolean) ∈ uU := uU_in (by decide +kernel) (by decide +kernel)
theorem q_116 : Cond.methodLink RX8 145 yX8_addPart ∈ uU := uU_in (by decide +kernel) (by decide +kernel)
theorem q_117 : Cond.instanceMethod yX8_addPart ∈ uU := uU_in (by decide +kernel) (by decide +kernel)
theorem q_118 : Cond.selects yX8_addPart.cls yX8_addPart yX8_addPart ∈ uU := uU_in (by decide +kernel) (by decide +kernel)
theorem q_119 : Cond.initialized yX8_addPart.cls ∈ uU := uU_in (by decide +kernel) (by decide +kernel)
theorem q_120 : Cond.code yX8_addPart cX8_addPart 2 none ∈ uU := uU_in (by decide +kernel) (by decide +kernel)
def l_X8_splitAll_13 (n : Nat) (a1 : Int) (v2 : Int) : MI × Int → Option ((MI) ⊕ (MI × Int)) := fun (M3, v4) =>
  Option.bind (odI M3 42 ((24) + v2)) fun v5 =>
  Option.bind (gI v5 a1) fun _ =>
  if v5 ≤ a1 then
    some (.inl M3)
  else
    Option.bind (f_X8_splits n ((24) + v2) a1 v4 M3) fun (v6, M7) =>
    Option.bind (
      Option.bind (gI v6 0) fun _ =>
      if v6 = 0 then
        some M7
      else
        Option.bind (f_X8_copy n ((24) + v2) (20) M7) fun v8 =>
        Option.bind (f_X8_rest n (20) (13) v8) fun v9 =>
        Option.bind (f_X8_copy n (3) ((24) + v2) v9) fun v10 =>
        Option.bind (f_X8_addPart n (13) v10) fun v11 =>
        some v11) fun M12 =>
    some (.inr (M12, v4 + (1)))
def l_X8_splitAll_2 (n : Nat) (a1 : Int) : MI × Int → Option ((MI) ⊕ (MI × Int)) := fun (M1, v2) =>
  Option.bind (gI v2 (M1.2 36 10)) fun _ =>
  if (M1.2 36 10) ≤ v2 then
    some (.inl M1)
  else
    Option.bind (lpF (l_X8_splitAll_13 n a1 v2) n (M1, (0))) fun M15 =>
    some (.inr (M15, v2 + 1))
def f_X8_splitAll (n : Nat) (a0 : Int) (a1 : Int) (M : MI) : Option MI :=
  Option.bind (lpF (l_X8_splitAll_2 n a1) n (M, a0)) fun M17 =>
  some M17
set_option maxRecDepth 100000 in
set_option maxHeartbeats 8000000 in
theorem b_X8_splitAll {p : Program} {l : Launch} {e : Env} {s : State} {m : MethodId} {args : Array Value} {below : List Frame} {meth : Method} {c : Code} {Q : State → Prop} {G : gG} {A : Nat → Prop} {adr : Nat → Nat} (cx : cX p s m args meth c cX8_splitAll none 6 yX8_splitAll.cls) (hi : adi adr) {n : Nat} {a0 : Int} {a1 : Int} {M M' : MI} 
    (h : f_X8_splitAll n a0 a1 M = some M')
    (kr : ∀ (pc : Nat) (ls : Array Slot) (H : Heap) (locs : List Loc), decode cX8_splitAll pc = .ok (.return_, 1) → wH G A s.heap s (LL adr) (wf G adr (tm M')) H locs → W p l e { frames := 5, cells := 0, slots := 0, locals := 136 } s m args below meth c H locs 0 0 Q (F0 m pc ls []))
    {ls : Array Slot} {H : Heap} {locs : List Loc} (hl : lv_has ls 6 [(0, .ref (adr 36)), (1, .int (Int32.ofInt a0)), (2, .int (Int32.ofInt a1))]) (hw : wH G A s.heap s (LL adr) (wf G adr (tm M)) H locs) : W p l e { frames := 5, cells := 0, slots := 0, locals := 136 } s m args below meth c H locs 0 0 Q (F0 m 0 ls []) := by
  obtain ⟨hx, hb, -, -, hown, hts, -⟩ := id cx
  have hown : s.vm.findClass RX8 = some m.cls := hown
  unfold f_X8_splitAll at h
  refine lv_iload_n hx hb dX8_splitAll_0 rfl (lv_at hl 1 rfl) ?_
  refine lv_istore_n (lv' := [(3, .int (Int32.ofInt a0)), (0, .ref (adr 36)), (1, .int (Int32.ofInt a0)), (2, .int (Int32.ofInt a1))]) hx hb dX8_splitAll_1 rfl hl (by decide) rfl (fun ls hl => ?_)
  replace h := bnd h
  obtain ⟨M17, j16, h⟩ := h
  refine lp_W (Wst := fun (st : MI × Int) => ∀ (ls : Array Slot) (H : Heap) (locs : List Loc), lv_has ls 6 [(0, .ref (adr 36)), (2, .int (Int32.ofInt a1)), (3, .int (Int32.ofInt st.2))] → wH G A s.heap s (LL adr) (wf G adr (tm st.1)) H locs → W p l e { frames := 5, cells := 0, slots := 0, locals := 136 } s m args below meth c H locs 0 0 Q (F0 m 2 ls [])) (fin := fun (r : MI) => ∀ (ls : Array Slot) (H : Heap) (locs : List Loc), lv_has ls 6 [] → wH G A s.heap s (LL adr) (wf G adr (tm r)) H locs → W p l e { frames := 5, cells := 0, slots := 0, locals := 136 } s m args below meth c H locs 0 0 Q (F0 m 88 ls [])) ?_ n _ _ j16 ?_ _ _ _ (lv_sub hl [1, 3, 0] rfl) hw
  · clear h j16 hw hl
    intro ⟨M1, v2⟩ x h k1 k2 ls H locs hl hw
    (try dsimp only at k1 k2 hl hw ⊢)
    unfold l_X8_splitAll_2 at h
    (try dsimp only at h)
    refine lv_iload_n hx hb dX8_splitAll_2 rfl (lv_at hl 2 rfl) ?_
    refine lv_aload_n hx hb dX8_splitAll_3 rfl (lv_at hl 0 rfl) ?_
    refine m_get (k := 36) (C := RX8) (T := TX8) (N := 18) (ref := "LiftFactorsModel") (v := .int (Int32.ofInt (M1.2 36 10))) hx hb hi hts inX8_u hown hw (by decide) rfl 10 (by decide) q_95 rfl rfl dX8_splitAll_4 ?_
    replace h := bnd h
    obtain ⟨_, hg, h⟩ := h
    refine o_icmp_ge (tgt := 88) hx hb hg dX8_splitAll_7 (by decide) (fun hc => ?_) (fun hc => ?_)
    · replace h := ite_t hc h
      cases h
      exact k1 _ rfl _ _ _ (lv_sub hl [] rfl) hw
    · replace h := ite_f hc h
      refine lv_lconst (v := Int64.ofInt (0)) hx hb dX8_splitAll_10 (by decide) ?_
      refine lv_lstore (lv' := [(4, .long (Int64.ofInt (0))), (0, .ref (adr 36)), (2, .int (Int32.ofInt a1)), (3, .int (Int32.ofInt v2))]) hx hb dX8_splitAll_11 hl (by decide) rfl (fun ls hl => ?_)
      replace h := bnd h
      obtain ⟨M15, j14, h⟩ := h
      refine lp_W (Wst := fun (st : MI × Int) => ∀ (ls : Array Slot) (H : Heap) (locs : List Loc), lv_has ls 6 [(0, .ref (adr 36)), (2, .int (Int32.ofInt a1)), (3, .int (Int32.ofInt v2)), (4, .long (Int64.ofInt st.2))] → wH G A s.heap s (LL adr) (wf G adr (tm st.1)) H locs → W p l e { frames := 5, cells := 0, slots := 0, locals := 136 } s m args below meth c H locs 0 0 Q (F0 m 13 ls [])) (fin := fun (r : MI) => ∀ (ls : Array Slot) (H : Heap) (locs : List Loc), lv_has ls 6 [(0, .ref (adr 36)), (2, .int (Int32.ofInt a1)), (3, .int (Int32.ofInt v2))] → wH G A s.heap s (LL adr) (wf G adr (tm r)) H locs → W p l e { frames := 5, cells := 0, slots := 0, locals := 136 } s m args below meth c H locs 0 0 Q (F0 m 82 ls [])) ?_ n _ _ j14 ?_ _ _ _ (lv_sub hl [1, 2, 3, 0] rfl) hw
      · clear h j14 hw hl
        intro ⟨M3, v4⟩ x h k1 k2 ls H locs hl hw
        (try dsimp only at k1 k2 hl hw ⊢)
        unfold l_X8_splitAll_13 at h
        (try dsimp only at h)
        refine lv_aload_n hx hb dX8_splitAll_13 rfl (lv_at hl 0 rfl) ?_
        refine m_get (k := 36) (C := RX8) (T := TX8) (N := 18) (ref := "LiftFactorsModel") (v := .ref (adr 42)) hx hb hi hts inX8_u hown hw (by decide) rfl 8 (by decide) q_1 rfl rfl dX8_splitAll_14 ?_
        refine lv_bipush (v := Int32.ofInt (24)) hx hb dX8_splitAll_17 rfl ?_
        refine lv_iload_n hx hb dX8_splitAll_19 rfl (lv_at hl 2 rfl) ?_
        refine o_iadd hx hb dX8_splitAll_20 ?_
        replace h := bnd h
        obtain ⟨v5, e5, h⟩ := h
        refine o_iald hx hb hi hw e5 dX8_splitAll_21 ?_
        refine lv_iload_n hx hb dX8_splitAll_22 rfl (lv_at hl 1 rfl) ?_
        replace h := bnd h
        obtain ⟨_, hg, h⟩ := h
        refine o_icmp_le (tgt := 82) hx hb hg dX8_splitAll_23 (by decide) (fun hc => ?_) (fun hc => ?_)
        · replace h := ite_t hc h
          cases h
          exact k1 _ rfl _ _ _ (lv_sub hl [0, 1, 2] rfl) hw
        · replace h := ite_f hc h
          refine lv_aload_n hx hb dX8_splitAll_26 rfl (lv_at hl 0 rfl) ?_
          refine lv_bipush (v := Int32.ofInt (24)) hx hb dX8_splitAll_27 rfl ?_
          refine lv_iload_n hx hb dX8_splitAll_29 rfl (lv_at hl 2 rfl) ?_
          refine o_iadd hx hb dX8_splitAll_30 ?_
          refine lv_iload_n hx hb dX8_splitAll_31 rfl (lv_at hl 1 rfl) ?_
          refine lv_lload hx hb dX8_splitAll_32 (lv_at hl 3 rfl) ?_
          replace h := bnd h
          obtain ⟨⟨v6, M7⟩, e6, h⟩ := h
          refine m_callVi (k := 36) (As := [.int (Int32.ofInt ((24) + v2)), .int (Int32.ofInt a1), .long (Int64.ofInt v4)]) (rest := []) cx.fix hi hw (cc_X8_splits (l := l) (G := G) (sz := H.size) hi e6) (by decide) rfl rfl (w_cV 3 hts q_111 q_112 q_113 q_114 q_115 rfl rfl (by decide) (by decide)) hl.1 rfl (lv_room (Nat.le_of_ble_eq_true rfl)) dX8_splitAll_34 (fun H locs hw => ?_)
          replace h := bnd h
          obtain ⟨M12, j13, h⟩ := h
          have kj : ∀ (ls : Array Slot) (H : Heap) (locs : List Loc), lv_has ls 6 [(0, .ref (adr 36)), (2, .int (Int32.ofInt a1)), (3, .int (Int32.ofInt v2)), (4, .long (Int64.ofInt v4))] → wH G A s.heap s (LL adr) (wf G adr (tm M12)) H locs → W p l e { frames := 5, cells := 0, slots := 0, locals := 136 } s m args below meth c H locs 0 0 Q (F0 m 73 ls []) := by
            intro ls H locs hl hw
            refine lv_lload hx hb dX8_splitAll_73 (lv_at hl 3 rfl) ?_
            refine lv_lconst (v := Int64.ofInt (1)) hx hb dX8_splitAll_75 (by decide) ?_
            refine o_ladd hx hb dX8_splitAll_76 ?_
            refine lv_lstore (lv' := [(4, .long (Int64.ofInt (v4 + (1)))), (0, .ref (adr 36)), (2, .int (Int32.ofInt a1)), (3, .int (Int32.ofInt v2))]) hx hb dX8_splitAll_77 hl (by decide) rfl (fun ls hl => ?_)
            refine lv_goto (tgt := 13) hx hb dX8_splitAll_79 (by decide) ?_
            cases h
            exact k2 _ rfl _ _ _ (lv_sub hl [1, 2, 3, 0] rfl) hw
          clear h
          replace h := j13
          clear j13
          replace h := bnd h
          obtain ⟨_, hg, h⟩ := h
          refine o_if_eq (tgt := 73) hx hb hg dX8_splitAll_37 (by decide) (fun hc => ?_) (fun hc => ?_)
          · replace h := ite_t hc h
            cases h
            exact kj _ _ _ (lv_sub hl [0, 1, 2, 3] rfl) hw
          · replace h := ite_f hc h
            refine lv_aload_n hx hb dX8_splitAll_40 rfl (lv_at hl 0 rfl) ?_
            refine lv_bipush (v := Int32.ofInt (24)) hx hb dX8_splitAll_41 rfl ?_
            refine lv_iload_n hx hb dX8_splitAll_43 rfl (lv_at hl 2 rfl) ?_
            refine o_iadd hx hb dX8_splitAll_44 ?_
            refine lv_bipush (v := Int32.ofInt (20)) hx hb dX8_splitAll_45 rfl ?_
            replace h := bnd h
            obtain ⟨v8, e8, h⟩ := h
            refine m_callVv (k := 36) (As := [.int (Int32.ofInt ((24) + v2)), .int (Int32.ofInt (20))]) (rest := []) cx.fix hi hw (cc_X8_copy (l := l) (G := G) (sz := H.size) hi e8) (by decide) rfl rfl (w_cV 2 hts q_24 q_25 q_26 q_27 q_28 rfl rfl (by decide) (by decide)) hl.1 rfl (lv_room (Nat.le_of_ble_eq_true rfl)) dX8_splitAll_47 (fun H locs hw => ?_)
            refine lv_aload_n hx hb dX8_splitAll_50 rfl (lv_at hl 0 rfl) ?_
            refine lv_bipush (v := Int32.ofInt (20)) hx hb dX8_splitAll_51 rfl ?_
            refine lv_bipush (v := Int32.ofInt (13)) hx hb dX8_splitAll_53 rfl ?_
            replace h := bnd h
            obtain ⟨v9, e9, h⟩ := h
            refine m_callVv (k := 36) (As := [.int (Int32.ofInt (20)), .int (Int32.ofInt (13))]) (rest := []) cx.fix hi hw (cc_X8_rest (l := l) (G := G) (sz := H.size) hi e9) (by decide) rfl rfl (w_cV 2 hts q_42 q_43 q_44 q_45 q_46 rfl rfl (by decide) (by decide)) hl.1 rfl (lv_room (Nat.le_of_ble_eq_true rfl)) dX8_splitAll_55 (fun H locs hw => ?_)
            refine lv_aload_n hx hb dX8_splitAll_58 rfl (lv_at hl 0 rfl) ?_
            refine lv_iconst (v := Int32.ofInt (3)) hx hb dX8_splitAll_59 rfl ?_
            refine lv_bipush (v := Int32.ofInt (24)) hx hb dX8_splitAll_60 rfl ?_
            refine lv_iload_n hx hb dX8_splitAll_62 rfl (lv_at hl 2 rfl) ?_
            refine o_iadd hx hb dX8_splitAll_63 ?_
            replace h := bnd h
            obtain ⟨v10, e10, h⟩ := h
            refine m_callVv (k := 36) (As := [.int (Int32.ofInt (3)), .int (Int32.ofInt ((24) + v2))]) (rest := []) cx.fix hi hw (cc_X8_copy (l := l) (G := G) (sz := H.size) hi e10) (by decide) rfl rfl (w_cV 2 hts q_24 q_25 q_26 q_27 q_28 rfl rfl (by decide) (by decide)) hl.1 rfl (lv_room (Nat.le_of_ble_eq_true rfl)) dX8_splitAll_64 (fun H locs hw => ?_)
            refine lv_aload_n hx hb dX8_splitAll_67 rfl (lv_at hl 0 rfl) ?_
            refine lv_bipush (v := Int32.ofInt (13)) hx hb dX8_splitAll_68 rfl ?_
            replace h := bnd h
            obtain ⟨v11, e11, h⟩ := h
            refine m_callVv (k := 36) (As := [.int (Int32.ofInt (13))]) (rest := []) cx.fix hi hw (cc_X8_addPart (l := l) (G := G) (sz := H.size) hi e11) (by decide) rfl rfl (w_cV 1 hts q_116 q_117 q_118 q_119 q_120 rfl rfl (by decide) (by decide)) hl.1 rfl (lv_room (Nat.le_of_ble_eq_true rfl)) dX8_splitAll_70 (fun H locs hw => ?_)
            cases h
            exact kj _ _ _ (lv_sub hl [0, 1, 2, 3] rfl) hw
      · clear hw hl
        intro ls H locs hl hw
        (try dsimp only at hl hw ⊢)
        refine lv_iinc (v := Int32.ofInt (v2 + 1)) (lv' := [(3, .int (Int32.ofInt (v2 + 1))), (0, .ref (adr 36)), (2, .int (Int32.ofInt a1))]) hx hb dX8_splitAll_82 hl (k := 2) rfl (inc_o _ _) (by decide) rfl (fun ls hl => ?_)
        refine lv_goto (tgt := 2) hx hb dX8_splitAll_85 (by decide) ?_
        cases h
        exact k2 _ rfl _ _ _ (lv_sub hl [1, 2, 0] rfl) hw
  · clear hw hl
    intro ls H locs hl hw
    (try dsimp only at hl hw ⊢)
    cases h
    exact kr _ _ _ _ dX8_splitAll_88 hw
theorem cc_X8_splitAll {l : Launch} {G : gG} {adr : Nat → Nat} {sz : Nat} (hi : adi adr) {n : Nat} {a0 : Int} {a1 : Int} {M M' : MI} (h : f_X8_splitAll n a0 a1 M = some M') : mV l yX8_splitAll cX8_splitAll 6 none { frames := 5, cells := 0, slots := 0, locals := 136 } G adr [.ref (adr 36), .int (Int32.ofInt a0), .int (Int32.ofInt a1)] (tm M) sz (tm M') := by
  refine wEnter (by decide) (Nat.le_of_ble_eq_true rfl) ?_
  intro p e s m below meth c ls cx hinit hl hsz hw
  exact b_X8_splitAll cx hi h (fun pc ls H locs hd hw => w_vret (post := fun (u : Mem) => u = tm M') (lf := fun u => (LL adr, wf G adr u)) cx.1 cx.2.1 cx.2.2.1 cx.2.2.2.2.2.2 (tm M') hw rfl hd) hl hw
theorem q_121 : Cond.methodLink RX8 148 yX8_lessLetter ∈ uU := uU_in (by decide +kernel) (by decide +kernel)
theorem q_122 : Cond.instanceMethod yX8_lessLetter ∈ uU := uU_in (by decide +kernel) (by decide +kernel)
theorem q_123 : Cond.selects yX8_lessLetter.cls yX8_lessLetter yX8_lessLetter ∈ uU := uU_in (by decide +kernel) (by decide +kernel)
theorem q_124 : Cond.initialized yX8_lessLetter.cls ∈ uU := uU_in (by decide +kernel) (by decide +kernel)
theorem q_125 : Cond.code yX8_lessLetter cX8_lessLetter 3 none ∈ uU := uU_in (by decide +kernel) (by decide +kernel)
theorem q_126 : Cond.methodLink RX8 151 yX8_splitAll ∈ uU := uU_in (by decide +kernel) (by decide +kernel)
theorem q_127 : Cond.instanceMethod yX8_splitAll ∈ uU := uU_in (by decide +kernel) (by decide +kernel)
theorem q_128 : Cond.selects yX8_splitAll.cls yX8_splitAll yX8_splitAll ∈ uU := uU_in (by decide +kernel) (by decide +kernel)
theorem q_129 : Cond.initialized yX8_splitAll.cls ∈ uU := uU_in (by decide +kernel) (by decide +kernel)
theorem q_130 : Cond.code yX8_splitAll cX8_splitAll 6 none ∈ uU := uU_in (by decide +kernel) (by decide +kernel)
def l_X8_factorModulo_21 (n : Nat) : MI × Int → Option (((MI) ⊕ (MI)) ⊕ (MI × Int)) := fun (M4, v5) =>
  Option.bind (odI M4 42 (12)) fun v6 =>
  Option.bind (gI v6 0) fun _ =>
  if v6 ≤ 0 then
    some (.inl (.inr M4))
  else
    Option.bind (odI M4 42 (12)) fun v7 =>
    Option.bind (gI ((2) * v5) v7) fun _ =>
    if ((2) * v5) ≤ v7 then
      Option.bind (f_X8_copy n (10) (16) M4) fun v8 =>
      Option.bind (f_X8_raise n (16) (v8.1 36 9) (12) (10) v8) fun v9 =>
      Option.bind (f_X8_copy n (10) (11) v9) fun v10 =>
      Option.bind (f_X8_lessLetter n (11) v10) fun v11 =>
      Option.bind (f_X8_copy n (12) (17) v11) fun v12 =>
      Option.bind (f_X8_commonRow n (17) (11) (18) v12) fun v13 =>
      Option.bind (odI v13 42 (18)) fun v14 =>
      Option.bind (
        Option.bind (gI v14 0) fun _ =>
        if v14 ≤ 0 then
          some v13
        else
          Option.bind (f_X8_addPart n (18) v13) fun v15 =>
          Option.bind (f_X8_copy n (12) (17) v15) fun v16 =>
          Option.bind (f_X8_rest n (17) (18) v16) fun v17 =>
          Option.bind (f_X8_copy n (3) (12) v17) fun v18 =>
          Option.bind (f_X8_splitAll n (v13.2 36 10) v5 v18) fun v19 =>
          Option.bind (odI v19 42 (12)) fun v20 =>
          Option.bind (gI v20 0) fun _ =>
          if v20 ≤ 0 then
            some v19
          else
            Option.bind (f_X8_rest n (10) (12) v19) fun v21 =>
            some v21) fun M22 =>
      some (.inr (M22, v5 + 1))
    else
      Option.bind (f_X8_addPart n (12) M4) fun v24 =>
      some (.inl (.inl v24))
def f_X8_factorModulo (n : Nat) (M : MI) : Option MI :=
  Option.bind (opI M 36 10 (0)) fun v1 =>
  Option.bind (f_X8_letter (10) v1) fun v2 =>
  Option.bind (f_X8_rest n (10) (12) v2) fun v3 =>
  Option.bind (lpF (l_X8_factorModulo_21 n) n (v3, (1))) fun r => match r with
  | .inl o => some o
  | .inr M26 =>
    some M26
set_option maxRecDepth 100000 in
set_option maxHeartbeats 8000000 in
theorem b_X8_factorModulo {p : Program} {l : Launch} {e : Env} {s : State} {m : MethodId} {args : Array Value} {below : List Frame} {meth : Method} {c : Code} {Q : State → Prop} {G : gG} {A : Nat → Prop} {adr : Nat → Nat} (cx : cX p s m args meth c cX8_factorModulo none 3 yX8_factorModulo.cls) (hi : adi adr) {n : Nat} {M M' : MI} 
    (h : f_X8_factorModulo n M = some M')
    (kr : ∀ (pc : Nat) (ls : Array Slot) (H : Heap) (locs : List Loc), decode cX8_factorModulo pc = .ok (.return_, 1) → wH G A s.heap s (LL adr) (wf G adr (tm M')) H locs → W p l e { frames := 6, cells := 0, slots := 0, locals := 161 } s m args below meth c H locs 0 0 Q (F0 m pc ls []))
    {ls : Array Slot} {H : Heap} {locs : List Loc} (hl : lv_has ls 3 [(0, .ref (adr 36))]) (hw : wH G A s.heap s (LL adr) (wf G adr (tm M)) H locs) : W p l e { frames := 6, cells := 0, slots := 0, locals := 161 } s m args below meth c H locs 0 0 Q (F0 m 0 ls []) := by
  obtain ⟨hx, hb, -, -, hown, hts, -⟩ := id cx
  have hown : s.vm.findClass RX8 = some m.cls := hown
  unfold f_X8_factorModulo at h
  refine lv_aload_n hx hb dX8_factorModulo_0 rfl (lv_at hl 0 rfl) ?_
  refine lv_iconst (v := Int32.ofInt (0)) hx hb dX8_factorModulo_1 rfl ?_
  replace h := bnd h
  obtain ⟨v1, e1, h⟩ := h
  refine o_putI (k := 36) (C := RX8) (T := TX8) (N := 18) (ref := "LiftFactorsModel") hx hb hi hts inX8_u tyX8 tyX8_ok nmX8 hown hw (by decide) rfl 10 (by decide) q_95 rfl rfl e1 (by decide +kernel) rfl dX8_factorModulo_2 (fun H locs hw => ?_)
  refine lv_aload_n hx hb dX8_factorModulo_5 rfl (lv_at hl 0 rfl) ?_
  refine lv_bipush (v := Int32.ofInt (10)) hx hb dX8_factorModulo_6 rfl ?_
  replace h := bnd h
  obtain ⟨v2, e2, h⟩ := h
  refine m_callVv (k := 36) (As := [.int (Int32.ofInt (10))]) (rest := []) cx.fix hi hw (cc_X8_letter (l := l) (G := G) (sz := H.size) hi e2) (by decide) rfl rfl (w_cV 1 hts q_96 q_97 q_98 q_99 q_100 rfl rfl (by decide) (by decide)) hl.1 rfl (lv_room (Nat.le_of_ble_eq_true rfl)) dX8_factorModulo_8 (fun H locs hw => ?_)
  refine lv_aload_n hx hb dX8_factorModulo_11 rfl (lv_at hl 0 rfl) ?_
  refine lv_bipush (v := Int32.ofInt (10)) hx hb dX8_factorModulo_12 rfl ?_
  refine lv_bipush (v := Int32.ofInt (12)) hx hb dX8_factorModulo_14 rfl ?_
  replace h := bnd h
  obtain ⟨v3, e3, h⟩ := h
  refine m_callVv (k := 36) (As := [.int (Int32.ofInt (10)), .int (Int32.ofInt (12))]) (rest := []) cx.fix hi hw (cc_X8_rest (l := l) (G := G) (sz := H.size) hi e3) (by decide) rfl rfl (w_cV 2 hts q_42 q_43 q_44 q_45 q_46 rfl rfl (by decide) (by decide)) hl.1 rfl (lv_room (Nat.le_of_ble_eq_true rfl)) dX8_factorModulo_16 (fun H locs hw => ?_)
  refine lv_iconst (v := Int32.ofInt (1)) hx hb dX8_factorModulo_19 rfl ?_
  refine lv_istore_n (lv' := [(1, .int (Int32.ofInt (1))), (0, .ref (adr 36))]) hx hb dX8_factorModulo_20 rfl hl (by decide) rfl (fun ls hl => ?_)
  replace h := bnd h
  obtain ⟨o27, j25, h⟩ := h
  refine lp_W (Wst := fun (st : MI × Int) => ∀ (ls : Array Slot) (H : Heap) (locs : List Loc), lv_has ls 3 [(0, .ref (adr 36)), (1, .int (Int32.ofInt st.2))] → wH G A s.heap s (LL adr) (wf G adr (tm st.1)) H locs → W p l e { frames := 6, cells := 0, slots := 0, locals := 161 } s m args below meth c H locs 0 0 Q (F0 m 21 ls [])) (fin := fun (r : (MI) ⊕ (MI)) => match r with
      | .inl o => ∀ (pc : Nat) (ls : Array Slot) (H : Heap) (locs : List Loc), decode cX8_factorModulo pc = .ok (.return_, 1) → wH G A s.heap s (LL adr) (wf G adr (tm o)) H locs → W p l e { frames := 6, cells := 0, slots := 0, locals := 161 } s m args below meth c H locs 0 0 Q (F0 m pc ls [])
      | .inr q => ∀ (ls : Array Slot) (H : Heap) (locs : List Loc), lv_has ls 3 [] → wH G A s.heap s (LL adr) (wf G adr (tm q)) H locs → W p l e { frames := 6, cells := 0, slots := 0, locals := 161 } s m args below meth c H locs 0 0 Q (F0 m 179 ls [])) ?_ n _ _ j25 ?_ _ _ _ (lv_sub hl [1, 0] rfl) hw
  · clear h j25 hw hl
    intro ⟨M4, v5⟩ x h k1 k2 ls H locs hl hw
    (try dsimp only at k2 hl hw ⊢)
    unfold l_X8_factorModulo_21 at h
    (try dsimp only at h)
    refine lv_aload_n hx hb dX8_factorModulo_21 rfl (lv_at hl 0 rfl) ?_
    refine m_get (k := 36) (C := RX8) (T := TX8) (N := 18) (ref := "LiftFactorsModel") (v := .ref (adr 42)) hx hb hi hts inX8_u hown hw (by decide) rfl 8 (by decide) q_1 rfl rfl dX8_factorModulo_22 ?_
    refine lv_bipush (v := Int32.ofInt (12)) hx hb dX8_factorModulo_25 rfl ?_
    replace h := bnd h
    obtain ⟨v6, e6, h⟩ := h
    refine o_iald hx hb hi hw e6 dX8_factorModulo_27 ?_
    replace h := bnd h
    obtain ⟨_, hg, h⟩ := h
    refine o_if_le (tgt := 179) hx hb hg dX8_factorModulo_28 (by decide) (fun hc => ?_) (fun hc => ?_)
    · replace h := ite_t hc h
      cases h
      exact k1 _ rfl _ _ _ (lv_sub hl [] rfl) hw
    · replace h := ite_f hc h
      refine lv_iconst (v := Int32.ofInt (2)) hx hb dX8_factorModulo_31 rfl ?_
      refine lv_iload_n hx hb dX8_factorModulo_32 rfl (lv_at hl 1 rfl) ?_
      refine o_imul hx hb dX8_factorModulo_33 ?_
      refine lv_aload_n hx hb dX8_factorModulo_34 rfl (lv_at hl 0 rfl) ?_
      refine m_get (k := 36) (C := RX8) (T := TX8) (N := 18) (ref := "LiftFactorsModel") (v := .ref (adr 42)) hx hb hi hts inX8_u hown hw (by decide) rfl 8 (by decide) q_1 rfl rfl dX8_factorModulo_35 ?_
      refine lv_bipush (v := Int32.ofInt (12)) hx hb dX8_factorModulo_38 rfl ?_
      replace h := bnd h
      obtain ⟨v7, e7, h⟩ := h
      refine o_iald hx hb hi hw e7 dX8_factorModulo_40 ?_
      replace h := bnd h
      obtain ⟨_, hg, h⟩ := h
      refine o_icmp_le (tgt := 51) hx hb hg dX8_factorModulo_41 (by decide) (fun hc => ?_) (fun hc => ?_)
      · replace h := ite_t hc h
        refine lv_aload_n hx hb dX8_factorModulo_51 rfl (lv_at hl 0 rfl) ?_
        refine lv_bipush (v := Int32.ofInt (10)) hx hb dX8_factorModulo_52 rfl ?_
        refine lv_bipush (v := Int32.ofInt (16)) hx hb dX8_factorModulo_54 rfl ?_
        replace h := bnd h
        obtain ⟨v8, e8, h⟩ := h
        refine m_callVv (k := 36) (As := [.int (Int32.ofInt (10)), .int (Int32.ofInt (16))]) (rest := []) cx.fix hi hw (cc_X8_copy (l := l) (G := G) (sz := H.size) hi e8) (by decide) rfl rfl (w_cV 2 hts q_24 q_25 q_26 q_27 q_28 rfl rfl (by decide) (by decide)) hl.1 rfl (lv_room (Nat.le_of_ble_eq_true rfl)) dX8_factorModulo_56 (fun H locs hw => ?_)
        refine lv_aload_n hx hb dX8_factorModulo_59 rfl (lv_at hl 0 rfl) ?_
        refine lv_bipush (v := Int32.ofInt (16)) hx hb dX8_factorModulo_60 rfl ?_
        refine lv_aload_n hx hb dX8_factorModulo_62 rfl (lv_at hl 0 rfl) ?_
        refine m_get (k := 36) (C := RX8) (T := TX8) (N := 18) (ref := "LiftFactorsModel") (v := .long (Int64.ofInt (v8.1 36 9))) hx hb hi hts inX8_u hown hw (by decide) rfl 9 (by decide) q_29 rfl rfl dX8_factorModulo_63 ?_
        refine lv_bipush (v := Int32.ofInt (12)) hx hb dX8_factorModulo_66 rfl ?_
        refine lv_bipush (v := Int32.ofInt (10)) hx hb dX8_factorModulo_68 rfl ?_
        replace h := bnd h
        obtain ⟨v9, e9, h⟩ := h
        refine m_callVv (k := 36) (As := [.int (Int32.ofInt (16)), .long (Int64.ofInt (v8.1 36 9)), .int (Int32.ofInt (12)), .int (Int32.ofInt (10))]) (rest := []) cx.fix hi hw (cc_X8_raise (l := l) (G := G) (sz := H.size) hi e9) (by decide) rfl rfl (w_cV 4 hts q_106 q_107 q_108 q_109 q_110 rfl rfl (by decide) (by decide)) hl.1 rfl (lv_room (Nat.le_of_ble_eq_true rfl)) dX8_factorModulo_70 (fun H locs hw => ?_)
        refine lv_aload_n hx hb dX8_factorModulo_73 rfl (lv_at hl 0 rfl) ?_
        refine lv_bipush (v := Int32.ofInt (10)) hx hb dX8_factorModulo_74 rfl ?_
        refine lv_bipush (v := Int32.ofInt (11)) hx hb dX8_factorModulo_76 rfl ?_
        replace h := bnd h
        obtain ⟨v10, e10, h⟩ := h
        refine m_callVv (k := 36) (As := [.int (Int32.ofInt (10)), .int (Int32.ofInt (11))]) (rest := []) cx.fix hi hw (cc_X8_copy (l := l) (G := G) (sz := H.size) hi e10) (by decide) rfl rfl (w_cV 2 hts q_24 q_25 q_26 q_27 q_28 rfl rfl (by decide) (by decide)) hl.1 rfl (lv_room (Nat.le_of_ble_eq_true rfl)) dX8_factorModulo_78 (fun H locs hw => ?_)
        refine lv_aload_n hx hb dX8_factorModulo_81 rfl (lv_at hl 0 rfl) ?_
        refine lv_bipush (v := Int32.ofInt (11)) hx hb dX8_factorModulo_82 rfl ?_
        replace h := bnd h
        obtain ⟨v11, e11, h⟩ := h
        refine m_callVv (k := 36) (As := [.int (Int32.ofInt (11))]) (rest := []) cx.fix hi hw (cc_X8_lessLetter (l := l) (G := G) (sz := H.size) hi e11) (by decide) rfl rfl (w_cV 1 hts q_121 q_122 q_123 q_124 q_125 rfl rfl (by decide) (by decide)) hl.1 rfl (lv_room (Nat.le_of_ble_eq_true rfl)) dX8_factorModulo_84 (fun H locs hw => ?_)
        refine lv_aload_n hx hb dX8_factorModulo_87 rfl (lv_at hl 0 rfl) ?_
        refine lv_bipush (v := Int32.ofInt (12)) hx hb dX8_factorModulo_88 rfl ?_
        refine lv_bipush (v := Int32.ofInt (17)) hx hb dX8_factorModulo_90 rfl ?_
        replace h := bnd h
        obtain ⟨v12, e12, h⟩ := h
        refine m_callVv (k := 36) (As := [.int (Int32.ofInt (12)), .int (Int32.ofInt (17))]) (rest := []) cx.fix hi hw (cc_X8_copy (l := l) (G := G) (sz := H.size) hi e12) (by decide) rfl rfl (w_cV 2 hts q_24 q_25 q_26 q_27 q_28 rfl rfl (by decide) (by decide)) hl.1 rfl (lv_room (Nat.le_of_ble_eq_true rfl)) dX8_factorModulo_92 (fun H locs hw => ?_)
        refine lv_aload_n hx hb dX8_factorModulo_95 rfl (lv_at hl 0 rfl) ?_
        refine lv_bipush (v := Int32.ofInt (17)) hx hb dX8_factorModulo_96 rfl ?_
        refine lv_bipush (v := Int32.ofInt (11)) hx hb dX8_factorModulo_98 rfl ?_
        refine lv_bipush (v := Int32.ofInt (18)) hx hb dX8_factorModulo_100 rfl ?_
        replace h := bnd h
        obtain ⟨v13, e13, h⟩ := h
        refine m_callVv (k := 36) (As := [.int (Int32.ofInt (17)), .int (Int32.ofInt (11)), .int (Int32.ofInt (18))]) (rest := []) cx.fix hi hw (cc_X8_commonRow (l := l) (G := G) (sz := H.size) hi e13) (by decide) rfl rfl (w_cV 3 hts q_79 q_80 q_81 q_82 q_83 rfl rfl (by decide) (by decide)) hl.1 rfl (lv_room (Nat.le_of_ble_eq_true rfl)) dX8_factorModulo_102 (fun H locs hw => ?_)
        refine lv_aload_n hx hb dX8_factorModulo_105 rfl (lv_at hl 0 rfl) ?_
        refine m_get (k := 36) (C := RX8) (T := TX8) (N := 18) (ref := "LiftFactorsModel") (v := .ref (adr 42)) hx hb hi hts inX8_u hown hw (by decide) rfl 8 (by decide) q_1 rfl rfl dX8_factorModulo_106 ?_
        refine lv_bipush (v := Int32.ofInt (18)) hx hb dX8_factorModulo_109 rfl ?_
        replace h := bnd h
        obtain ⟨v14, e14, h⟩ := h
        refine o_iald hx hb hi hw e14 dX8_factorModulo_111 ?_
        replace h := bnd h
        obtain ⟨M22, j23, h⟩ := h
        have kj : ∀ (ls : Array Slot) (H : Heap) (locs : List Loc), lv_has ls 3 [(0, .ref (adr 36)), (1, .int (Int32.ofInt v5))] → wH G A s.heap s (LL adr) (wf G adr (tm M22)) H locs → W p l e { frames := 6, cells := 0, slots := 0, locals := 161 } s m args below meth c H locs 0 0 Q (F0 m 173 ls []) := by
          intro ls H locs hl hw
          refine lv_iinc (v := Int32.ofInt (v5 + 1)) (lv' := [(1, .int (Int32.ofInt (v5 + 1))), (0, .ref (adr 36))]) hx hb dX8_factorModulo_173 hl (k := 1) rfl (inc_o _ _) (by decide) rfl (fun ls hl => ?_)
          refine lv_goto (tgt := 21) hx hb dX8_factorModulo_176 (by decide) ?_
          cases h
          exact k2 _ rfl _ _ _ (lv_sub hl [1, 0] rfl) hw
        clear h
        replace h := j23
        clear j23
        replace h := bnd h
        obtain ⟨_, hg, h⟩ := h
        refine o_if_le (tgt := 173) hx hb hg dX8_factorModulo_112 (by decide) (fun hc => ?_) (fun hc => ?_)
        · replace h := ite_t hc h
          cases h
          exact kj _ _ _ (lv_sub hl [0, 1] rfl) hw
        · replace h := ite_f hc h
          refine lv_aload_n hx hb dX8_factorModulo_115 rfl (lv_at hl 0 rfl) ?_
          refine m_get (k := 36) (C := RX8) (T := TX8) (N := 18) (ref := "LiftFactorsModel") (v := .int (Int32.ofInt (v13.2 36 10))) hx hb hi hts inX8_u hown hw (by decide) rfl 10 (by decide) q_95 rfl rfl dX8_factorModulo_116 ?_
          refine lv_istore_n (lv' := [(2, .int (Int32.ofInt (v13.2 36 10))), (0, .ref (adr 36)), (1, .int (Int32.ofInt v5))]) hx hb dX8_factorModulo_119 rfl hl (by decide) rfl (fun ls hl => ?_)
          refine lv_aload_n hx hb dX8_factorModulo_120 rfl (lv_at hl 1 rfl) ?_
          refine lv_bipush (v := Int32.ofInt (18)) hx hb dX8_factorModulo_121 rfl ?_
          replace h := bnd h
          obtain ⟨v15, e15, h⟩ := h
          refine m_callVv (k := 36) (As := [.int (Int32.ofInt (18))]) (rest := []) cx.fix hi hw (cc_X8_addPart (l := l) (G := G) (sz := H.size) hi e15) (by decide) rfl rfl (w_cV 1 hts q_116 q_117 q_118 q_119 q_120 rfl rfl (by decide) (by decide)) hl.1 rfl (lv_room (Nat.le_of_ble_eq_true rfl)) dX8_factorModulo_123 (fun H locs hw => ?_)
          refine lv_aload_n hx hb dX8_factorModulo_126 rfl (lv_at hl 1 rfl) ?_
          refine lv_bipush (v := Int32.ofInt (12)) hx hb dX8_factorModulo_127 rfl ?_
          refine lv_bipush (v := Int32.ofInt (17)) hx hb dX8_factorModulo_129 rfl ?_
          replace h := bnd h
          obtain ⟨v16, e16, h⟩ := h
          refine m_callVv (k := 36) (As := [.int (Int32.ofInt (12)), .int (Int32.ofInt (17))]) (rest := []) cx.fix hi hw (cc_X8_copy (l := l) (G := G) (sz := H.size) hi e16) (by decide) rfl rfl (w_cV 2 hts q_24 q_25 q_26 q_27 q_28 rfl rfl (by decide) (by decide)) hl.1 rfl (lv_room (Nat.le_of_ble_eq_true rfl)) dX8_factorModulo_131 (fun H locs hw => ?_)
          refine lv_aload_n hx hb dX8_factorModulo_134 rfl (lv_at hl 1 rfl) ?_
          refine lv_bipush (v := Int32.ofInt (17)) hx hb dX8_factorModulo_135 rfl ?_
          refine lv_bipush (v := Int32.ofInt (18)) hx hb dX8_factorModulo_137 rfl ?_
          replace h := bnd h
          obtain ⟨v17, e17, h⟩ := h
          refine m_callVv (k := 36) (As := [.int (Int32.ofInt (17)), .int (Int32.ofInt (18))]) (rest := []) cx.fix hi hw (cc_X8_rest (l := l) (G := G) (sz := H.size) hi e17) (by decide) rfl rfl (w_cV 2 hts q_42 q_43 q_44 q_45 q_46 rfl rfl (by decide) (by decide)) hl.1 rfl (lv_room (Nat.le_of_ble_eq_true rfl)) dX8_factorModulo_139 (fun H locs hw => ?_)
          refine lv_aload_n hx hb dX8_factorModulo_142 rfl (lv_at hl 1 rfl) ?_
          refine lv_iconst (v := Int32.ofInt (3)) hx hb dX8_factorModulo_143 rfl ?_
          refine lv_bipush (v := Int32.ofInt (12)) hx hb dX8_factorModulo_144 rfl ?_
          replace h := bnd h
          obtain ⟨v18, e18, h⟩ := h
          refine m_callVv (k := 36) (As := [.int (Int32.ofInt (3)), .int (Int32.ofInt (12))]) (rest := []) cx.fix hi hw (cc_X8_copy (l := l) (G := G) (sz := H.size) hi e18) (by decide) rfl rfl (w_cV 2 hts q_24 q_25 q_26 q_27 q_28 rfl rfl (by decide) (by decide)) hl.1 rfl (lv_room (Nat.le_of_ble_eq_true rfl)) dX8_factorModulo_146 (fun H locs hw => ?_)
          refine lv_aload_n hx hb dX8_factorModulo_149 rfl (lv_at hl 1 rfl) ?_
          refine lv_iload_n hx hb dX8_factorModulo_150 rfl (lv_at hl 0 rfl) ?_
          refine lv_iload_n hx hb dX8_factorModulo_151 rfl (lv_at hl 2 rfl) ?_
          replace h := bnd h
          obtain ⟨v19, e19, h⟩ := h
          refine m_callVv (k := 36) (As := [.int (Int32.ofInt (v13.2 36 10)), .int (Int32.ofInt v5)]) (rest := []) cx.fix hi hw (cc_X8_splitAll (l := l) (G := G) (sz := H.size) hi e19) (by decide) rfl rfl (w_cV 2 hts q_126 q_127 q_128 q_129 q_130 rfl rfl (by decide) (by decide)) hl.1 rfl (lv_room (Nat.le_of_ble_eq_true rfl)) dX8_factorModulo_152 (fun H locs hw => ?_)
          refine lv_aload_n hx hb dX8_factorModulo_155 rfl (lv_at hl 1 rfl) ?_
          refine m_get (k := 36) (C := RX8) (T := TX8) (N := 18) (ref := "LiftFactorsModel") (v := .ref (adr 42)) hx hb hi hts inX8_u hown hw (by decide) rfl 8 (by decide) q_1 rfl rfl dX8_factorModulo_156 ?_
          refine lv_bipush (v := Int32.ofInt (12)) hx hb dX8_factorModulo_159 rfl ?_
          replace h := bnd h
          obtain ⟨v20, e20, h⟩ := h
          refine o_iald hx hb hi hw e20 dX8_factorModulo_161 ?_
          replace h := bnd h
          obtain ⟨_, hg, h⟩ := h
          refine o_if_le (tgt := 173) hx hb hg dX8_factorModulo_162 (by decide) (fun hc => ?_) (fun hc => ?_)
          · replace h := ite_t hc h
            cases h
            exact kj _ _ _ (lv_sub hl [1, 2] rfl) hw
          · replace h := ite_f hc h
            refine lv_aload_n hx hb dX8_factorModulo_165 rfl (lv_at hl 1 rfl) ?_
            refine lv_bipush (v := Int32.ofInt (10)) hx hb dX8_factorModulo_166 rfl ?_
            refine lv_bipush (v := Int32.ofInt (12)) hx hb dX8_factorModulo_168 rfl ?_
            replace h := bnd h
            obtain ⟨v21, e21, h⟩ := h
            refine m_callVv (k := 36) (As := [.int (Int32.ofInt (10)), .int (Int32.ofInt (12))]) (rest := []) cx.fix hi hw (cc_X8_rest (l := l) (G := G) (sz := H.size) hi e21) (by decide) rfl rfl (w_cV 2 hts q_42 q_43 q_44 q_45 q_46 rfl rfl (by decide) (by decide)) hl.1 rfl (lv_room (Nat.le_of_ble_eq_true rfl)) dX8_factorModulo_170 (fun H locs hw => ?_)
            cases h
            exact kj _ _ _ (lv_sub hl [1, 2] rfl) hw
      · replace h := ite_f hc h
        refine lv_aload_n hx hb dX8_factorModulo_44 rfl (lv_at hl 0 rfl) ?_
        refine lv_bipush (v := Int32.ofInt (12)) hx hb dX8_factorModulo_45 rfl ?_
        replace h := bnd h
        obtain ⟨v24, e24, h⟩ := h
        refine m_callVv (k := 36) (As := [.int (Int32.ofInt (12))]) (rest := []) cx.fix hi hw (cc_X8_addPart (l := l) (G := G) (sz := H.size) hi e24) (by decide) rfl rfl (w_cV 1 hts q_116 q_117 q_118 q_119 q_120 rfl rfl (by decide) (by decide)) hl.1 rfl (lv_room (Nat.le_of_ble_eq_true rfl)) dX8_factorModulo_47 (fun H locs hw => ?_)
        cases h
        exact k1 _ rfl _ _ _ _ dX8_factorModulo_50 hw
  · clear hw hl j25
    rcases o27 with o9 | M26
    · cases h
      exact kr
    · intro ls H locs hl hw
      (try dsimp only at h hl hw ⊢)
      cases h
      exact kr _ _ _ _ dX8_factorModulo_179 hw
theorem cc_X8_factorModulo {l : Launch} {G : gG} {adr : Nat → Nat} {sz : Nat} (hi : adi adr) {n : Nat} {M M' : MI} (h : f_X8_factorModulo n M = some M') : mV l yX8_factorModulo cX8_factorModulo 3 none { frames := 6, cells := 0, slots := 0, locals := 161 } G adr [.ref (adr 36)] (tm M) sz (tm M') := by
  refine wEnter (by decide) (Nat.le_of_ble_eq_true rfl) ?_
  intro p e s m below meth c ls cx hinit hl hsz hw
  exact b_X8_factorModulo cx hi h (fun pc ls H locs hd hw => w_vret (post := fun (u : Mem) => u = tm M') (lf := fun u => (LL adr, wf G adr u)) cx.1 cx.2.1 cx.2.2.1 cx.2.2.2.2.2.2 (tm M') hw rfl hd) hl hw
def l_X8_candidate_69 (c10 : Int) : MI × Int → Option ((MI) ⊕ (MI × Int)) := fun (M8, v9) =>
  Option.bind (gI v9 c10) fun _ =>
  if c10 < v9 then
    some (.inl M8)
  else
    Option.bind (osJ M8 41 ((264) + v9) (0)) fun v11 =>
    some (.inr (v11, v9 + 1))
def l_X8_candidate_112 (v5 : Int) (v15 : Int) : MI × Int → Option ((MI) ⊕ (MI × Int)) := fun (M18, v19) =>
  Option.bind (odI M18 42 ((24) + v5)) fun v20 =>
  Option.bind (gI v19 v20) fun _ =>
  if v20 < v19 then
    some (.inl M18)
  else
    Option.bind (odJ M18 41 (((264) + v15) + v19)) fun v21 =>
    Option.bind (odJ M18 41 ((168) + v15)) fun v22 =>
    Option.bind (odJ M18 41 (((24) * ((24) + v5)) + v19)) fun v23 =>
    Option.bind (f_X8_product v22 v23 M18) fun v24 =>
    Option.bind (orJ (v21 + v24) (M18.1 36 9)) fun v25 =>
    Option.bind (osJ M18 41 (((264) + v15) + v19) v25) fun v26 =>
    some (.inr (v26, v19 + 1))
def l_X8_candidate_97 (n : Nat) (v5 : Int) : MI × Int → Option ((MI) ⊕ (MI × Int)) := fun (M14, v15) =>
  Option.bind (odI M14 42 (7)) fun v17 =>
  Option.bind (gI v15 v17) fun _ =>
  if v17 < v15 then
    some (.inl M14)
  else
    Option.bind (lpF (l_X8_candidate_112 v5 v15) n (M14, (0))) fun M28 =>
    some (.inr (M28, v15 + 1))
def l_X8_candidate_27 (n : Nat) (a0 : Int) : MI × Int → Option ((MI) ⊕ (MI × Int)) := fun (M4, v5) =>
  Option.bind (gI v5 (M4.2 36 10)) fun _ =>
  if (M4.2 36 10) ≤ v5 then
    some (.inl M4)
  else
    Option.bind (
      Option.bind (gI (oandI (oshrI a0 v5) (1)) (1)) fun _ =>
      if (oandI (oshrI a0 v5) (1)) = (1) then
        Option.bind (odI M4 42 (7)) fun v6 =>
        Option.bind (odI M4 42 ((24) + v5)) fun v7 =>
        Option.bind (lpF (l_X8_candidate_69 (v6 + v7)) n (M4, (0))) fun M13 =>
        Option.bind (lpF (l_X8_candidate_97 n v5) n (M13, (0))) fun M30 =>
        Option.bind (f_X8_trim n (11) (v6 + v7) M30) fun v31 =>
        Option.bind (f_X8_copy n (11) (7) v31) fun v32 =>
        some v32
      else
        some M4) fun M33 =>
    some (.inr (M33, v5 + 1))
def f_X8_candidate (n : Nat) (a0 : Int) (M : MI) : Option MI :=
  Option.bind (odI M 42 (19)) fun v1 =>
  Option.bind (odJ M 41 ((456) + v1)) fun v2 =>
  Option.bind (f_X8_constant (7) v2 M) fun v3 =>
  Option.bind (lpF (l_X8_candidate_27 n a0) n (v3, (0))) fun M36 =>
  Option.bind (f_X8_center n (7) M36) fun v37 =>
  Option.bind (f_X8_primitive n (7) v37) fun (v38, M39) =>
  some M39
set_option maxRecDepth 100000 in
set_option maxHeartbeats 8000000 in
theorem b_X8_candidate {p : Program} {l : Launch} {e : Env} {s : State} {m : MethodId} {args : Array Value} {below : List Frame} {meth : Method} {c : Code} {Q : State → Prop} {G : gG} {A : Nat → Prop} {adr : Nat → Nat} (cx : cX p s m args meth c cX8_candidate none 8 yX8_candidate.cls) (hi : adi adr) {n : Nat} {a0 : Int} {M M' : MI} 
    (h : f_X8_candidate n a0 M = some M')
    (kr : ∀ (pc : Nat) (ls : Array Slot) (H : Heap) (locs : List Loc), decode cX8_candidate pc = .ok (.return_, 1) → wH G A s.heap s (LL adr) (wf G adr (tm M')) H locs → W p l e { frames := 3, cells := 0, slots := 0, locals := 74 } s m args below meth c H locs 0 0 Q (F0 m pc ls []))
    {ls : Array Slot} {H : Heap} {locs : List Loc} (hl : lv_has ls 8 [(0, .ref (adr 36)), (1, .int (Int32.ofInt a0))]) (hw : wH G A s.heap s (LL adr) (wf G adr (tm M)) H locs) : W p l e { frames := 3, cells := 0, slots := 0, locals := 74 } s m args below meth c H locs 0 0 Q (F0 m 0 ls []) := by
  obtain ⟨hx, hb, -, -, hown, hts, -⟩ := id cx
  have hown : s.vm.findClass RX8 = some m.cls := hown
  unfold f_X8_candidate at h
  refine lv_aload_n hx hb dX8_candidate_0 rfl (lv_at hl 0 rfl) ?_
  refine m_get (k := 36) (C := RX8) (T := TX8) (N := 18) (ref := "LiftFactorsModel") (v := .ref (adr 41)) hx hb hi hts inX8_u hown hw (by decide) rfl 7 (by decide) q_0 rfl rfl dX8_candidate_1 ?_
  refine lv_sipush (v := Int32.ofInt (456)) hx hb dX8_candidate_4 rfl ?_
  refine lv_aload_n hx hb dX8_candidate_7 rfl (lv_at hl 0 rfl) ?_
  refine m_get (k := 36) (C := RX8) (T := TX8) (N := 18) (ref := "LiftFactorsModel") (v := .ref (adr 42)) hx hb hi hts inX8_u hown hw (by decide) rfl 8 (by decide) q_1 rfl rfl dX8_candidate_8 ?_
  refine lv_bipush (v := Int32.ofInt (19)) hx hb dX8_candidate_11 rfl ?_
  replace h := bnd h
  obtain ⟨v1, e1, h⟩ := h
  refine o_iald hx hb hi hw e1 dX8_candidate_13 ?_
  refine o_iadd hx hb dX8_candidate_14 ?_
  replace h := bnd h
  obtain ⟨v2, e2, h⟩ := h
  refine o_lald hx hb hi hw e2 dX8_candidate_15 ?_
  refine lv_lstore_n (lv' := [(2, .long (Int64.ofInt v2)), (0, .ref (adr 36)), (1, .int (Int32.ofInt a0))]) hx hb dX8_candidate_16 rfl hl (by decide) rfl (fun ls hl => ?_)
  refine lv_aload_n hx hb dX8_candidate_17 rfl (lv_at hl 1 rfl) ?_
  refine lv_bipush (v := Int32.ofInt (7)) hx hb dX8_candidate_18 rfl ?_
  refine lv_lload_n hx hb dX8_candidate_20 rfl (lv_at hl 0 rfl) ?_
  replace h := bnd h
  obtain ⟨v3, e3, h⟩ := h
  refine m_callVv (k := 36) (As := [.int (Int32.ofInt (7)), .long (Int64.ofInt v2)]) (rest := []) cx.fix hi hw (cc_X8_constant (l := l) (G := G) (sz := H.size) hi e3) (by decide) rfl rfl (w_cV 2 hts q_47 q_48 q_49 q_50 q_51 rfl rfl (by decide) (by decide)) hl.1 rfl (lv_room (Nat.le_of_ble_eq_true rfl)) dX8_candidate_21 (fun H locs hw => ?_)
  refine lv_iconst (v := Int32.ofInt (0)) hx hb dX8_candidate_24 rfl ?_
  refine lv_istore (lv' := [(4, .int (Int32.ofInt (0))), (2, .long (Int64.ofInt v2)), (0, .ref (adr 36)), (1, .int (Int32.ofInt a0))]) hx hb dX8_candidate_25 hl (by decide) rfl (fun ls hl => ?_)
  replace h := bnd h
  obtain ⟨M36, j35, h⟩ := h
  refine lp_W (Wst := fun (st : MI × Int) => ∀ (ls : Array Slot) (H : Heap) (locs : List Loc), lv_has ls 8 [(0, .ref (adr 36)), (1, .int (Int32.ofInt a0)), (4, .int (Int32.ofInt st.2))] → wH G A s.heap s (LL adr) (wf G adr (tm st.1)) H locs → W p l e { frames := 3, cells := 0, slots := 0, locals := 74 } s m args below meth c H locs 0 0 Q (F0 m 27 ls [])) (fin := fun (r : MI) => ∀ (ls : Array Slot) (H : Heap) (locs : List Loc), lv_has ls 8 [(0, .ref (adr 36))] → wH G A s.heap s (LL adr) (wf G adr (tm r)) H locs → W p l e { frames := 3, cells := 0, slots := 0, locals := 74 } s m args below meth c H locs 0 0 Q (F0 m 226 ls [])) ?_ n _ _ j35 ?_ _ _ _ (lv_sub hl [2, 3, 0] rfl) hw
  · clear h j35 hw hl
    intro ⟨M4, v5⟩ x h k1 k2 ls H locs hl hw
    (try dsimp only at k1 k2 hl hw ⊢)
    unfold l_X8_candidate_27 at h
    (try dsimp only at h)
    refine lv_iload hx hb dX8_candidate_27 (lv_at hl 2 rfl) ?_
    refine lv_aload_n hx hb dX8_candidate_29 rfl (lv_at hl 0 rfl) ?_
    refine m_get (k := 36) (C := RX8) (T := TX8) (N := 18) (ref := "LiftFactorsModel") (v := .int (Int32.ofInt (M4.2 36 10))) hx hb hi hts inX8_u hown hw (by decide) rfl 10 (by decide) q_95 rfl rfl dX8_candidate_30 ?_
    replace h := bnd h
    obtain ⟨_, hg, h⟩ := h
    refine o_icmp_ge (tgt := 226) hx hb hg dX8_candidate_33 (by decide) (fun hc => ?_) (fun hc => ?_)
    · replace h := ite_t hc h
      cases h
      exact k1 _ rfl _ _ _ (lv_sub hl [0] rfl) hw
    · replace h := ite_f hc h
      refine lv_iload_n hx hb dX8_candidate_36 rfl (lv_at hl 1 rfl) ?_
      refine lv_iload hx hb dX8_candidate_37 (lv_at hl 2 rfl) ?_
      refine o_ishr hx hb dX8_candidate_39 ?_
      refine lv_iconst (v := Int32.ofInt (1)) hx hb dX8_candidate_40 rfl ?_
      refine o_iand hx hb dX8_candidate_41 ?_
      refine lv_iconst (v := Int32.ofInt (1)) hx hb dX8_candidate_42 rfl ?_
      replace h := bnd h
      obtain ⟨M33, j34, h⟩ := h
      have kj : ∀ (ls : Array Slot) (H : Heap) (locs : List Loc), lv_has ls 8 [(0, .ref (adr 36)), (1, .int (Int32.ofInt a0)), (4, .int (Int32.ofInt v5))] → wH G A s.heap s (LL adr) (wf G adr (tm M33)) H locs → W p l e { frames := 3, cells := 0, slots := 0, locals := 74 } s m args below meth c H locs 0 0 Q (F0 m 220 ls []) := by
        intro ls H locs hl hw
        refine lv_iinc (v := Int32.ofInt (v5 + 1)) (lv' := [(4, .int (Int32.ofInt (v5 + 1))), (0, .ref (adr 36)), (1, .int (Int32.ofInt a0))]) hx hb dX8_candidate_220 hl (k := 2) rfl (inc_o _ _) (by decide) rfl (fun ls hl => ?_)
        refine lv_goto (tgt := 27) hx hb dX8_candidate_223 (by decide) ?_
        cases h
        exact k2 _ rfl _ _ _ (lv_sub hl [1, 2, 0] rfl) hw
      clear h
      replace h := j34
      clear j34
      replace h := bnd h
      obtain ⟨_, hg, h⟩ := h
      refine o_icmp_ne (tgt := 220) hx hb hg dX8_candidate_43 (by decide) (fun hc => ?_) (fun hc => ?_)
      · replace h := ite_f hc h
        cases h
        exact kj _ _ _ (lv_sub hl [0, 1, 2] rfl) hw
      · replace h := ite_t hc h
        refine lv_aload_n hx hb dX8_candidate_46 rfl (lv_at hl 0 rfl) ?_
        refine m_get (k := 36) (C := RX8) (T := TX8) (N := 18) (ref := "LiftFactorsModel") (v := .ref (adr 42)) hx hb hi hts inX8_u hown hw (by decide) rfl 8 (by decide) q_1 rfl rfl dX8_candidate_47 ?_
        refine lv_bipush (v := Int32.ofInt (7)) hx hb dX8_candidate_50 rfl ?_
        replace h := bnd h
        obtain ⟨v6, e6, h⟩ := h
        refine o_iald hx hb hi hw e6 dX8_candidate_52 ?_
        refine lv_aload_n hx hb dX8_candidate_53 rfl (lv_at hl 0 rfl) ?_
        refine m_get (k := 36) (C := RX8) (T := TX8) (N := 18) (ref := "LiftFactorsModel") (v := .ref (adr 42)) hx hb hi hts inX8_u hown hw (by decide) rfl 8 (by decide) q_1 rfl rfl dX8_candidate_54 ?_
        refine lv_bipush (v := Int32.ofInt (24)) hx hb dX8_candidate_57 rfl ?_
        refine lv_iload hx hb dX8_candidate_59 (lv_at hl 2 rfl) ?_
        refine o_iadd hx hb dX8_candidate_61 ?_
        replace h := bnd h
        obtain ⟨v7, e7, h⟩ := h
        refine o_iald hx hb hi hw e7 dX8_candidate_62 ?_
        refine o_iadd hx hb dX8_candidate_63 ?_
        refine lv_istore (lv' := [(5, .int (Int32.ofInt (v6 + v7))), (0, .ref (adr 36)), (1, .int (Int32.ofInt a0)), (4, .int (Int32.ofInt v5))]) hx hb dX8_candidate_64 hl (by decide) rfl (fun ls hl => ?_)
        refine lv_iconst (v := Int32.ofInt (0)) hx hb dX8_candidate_66 rfl ?_
        refine lv_istore (lv' := [(6, .int (Int32.ofInt (0))), (5, .int (Int32.ofInt (v6 + v7))), (0, .ref (adr 36)), (1, .int (Int32.ofInt a0)), (4, .int (Int32.ofInt v5))]) hx hb dX8_candidate_67 hl (by decide) rfl (fun ls hl => ?_)
        replace h := bnd h
        obtain ⟨M13, j12, h⟩ := h
        refine lp_W (Wst := fun (st : MI × Int) => ∀ (ls : Array Slot) (H : Heap) (locs : List Loc), lv_has ls 8 [(0, .ref (adr 36)), (1, .int (Int32.ofInt a0)), (4, .int (Int32.ofInt v5)), (5, .int (Int32.ofInt (v6 + v7))), (6, .int (Int32.ofInt st.2))] → wH G A s.heap s (LL adr) (wf G adr (tm st.1)) H locs → W p l e { frames := 3, cells := 0, slots := 0, locals := 74 } s m args below meth c H locs 0 0 Q (F0 m 69 ls [])) (fin := fun (r : MI) => ∀ (ls : Array Slot) (H : Heap) (locs : List Loc), lv_has ls 8 [(0, .ref (adr 36)), (1, .int (Int32.ofInt a0)), (4, .int (Int32.ofInt v5)), (5, .int (Int32.ofInt (v6 + v7)))] → wH G A s.heap s (LL adr) (wf G adr (tm r)) H locs → W p l e { frames := 3, cells := 0, slots := 0, locals := 74 } s m args below meth c H locs 0 0 Q (F0 m 94 ls [])) ?_ n _ _ j12 ?_ _ _ _ (lv_sub hl [2, 3, 4, 1, 0] rfl) hw
        · clear h j12 hw hl
          intro ⟨M8, v9⟩ x h k1 k2 ls H locs hl hw
          (try dsimp only at k1 k2 hl hw ⊢)
          unfold l_X8_candidate_69 at h
          (try dsimp only at h)
          refine lv_iload hx hb dX8_candidate_69 (lv_at hl 4 rfl) ?_
          refine lv_iload hx hb dX8_candidate_71 (lv_at hl 3 rfl) ?_
          replace h := bnd h
          obtain ⟨_, hg, h⟩ := h
          refine o_icmp_gt (tgt := 94) hx hb hg dX8_candidate_73 (by decide) (fun hc => ?_) (fun hc => ?_)
          · replace h := ite_t hc h
            cases h
            exact k1 _ rfl _ _ _ (lv_sub hl [0, 1, 2, 3] rfl) hw
          · replace h := ite_f hc h
            refine lv_aload_n hx hb dX8_candidate_76 rfl (lv_at hl 0 rfl) ?_
            refine m_get (k := 36) (C := RX8) (T := TX8) (N := 18) (ref := "LiftFactorsModel") (v := .ref (adr 41)) hx hb hi hts inX8_u hown hw (by decide) rfl 7 (by decide) q_0 rfl rfl dX8_candidate_77 ?_
            refine lv_sipush (v := Int32.ofInt (264)) hx hb dX8_candidate_80 rfl ?_
            refine lv_iload hx hb dX8_candidate_83 (lv_at hl 4 rfl) ?_
            refine o_iadd hx hb dX8_candidate_85 ?_
            refine lv_lconst (v := Int64.ofInt (0)) hx hb dX8_candidate_86 (by decide) ?_
            replace h := bnd h
            obtain ⟨v11, e11, h⟩ := h
            refine o_last hx hb hi hw e11 dX8_candidate_87 (fun H locs hw => ?_)
            refine lv_iinc (v := Int32.ofInt (v9 + 1)) (lv' := [(6, .int (Int32.ofInt (v9 + 1))), (0, .ref (adr 36)), (1, .int (Int32.ofInt a0)), (4, .int (Int32.ofInt v5)), (5, .int (Int32.ofInt (v6 + v7)))]) hx hb dX8_candidate_88 hl (k := 4) rfl (inc_o _ _) (by decide) rfl (fun ls hl => ?_)
            refine lv_goto (tgt := 69) hx hb dX8_candidate_91 (by decide) ?_
            cases h
            exact k2 _ rfl _ _ _ (lv_sub hl [1, 2, 3, 4, 0] rfl) hw
        · clear hw hl
          intro ls H locs hl hw
          (try dsimp only at hl hw ⊢)
          refine lv_iconst (v := Int32.ofInt (0)) hx hb dX8_candidate_94 rfl ?_
          refine lv_istore (lv' := [(6, .int (Int32.ofInt (0))), (0, .ref (adr 36)), (1, .int (Int32.ofInt a0)), (4, .int (Int32.ofInt v5)), (5, .int (Int32.ofInt (v6 + v7)))]) hx hb dX8_candidate_95 hl (by decide) rfl (fun ls hl => ?_)
          replace h := bnd h
          obtain ⟨M30, j29, h⟩ := h
          refine lp_W (Wst := fun (st : MI × Int) => ∀ (ls : Array Slot) (H : Heap) (locs : List Loc), lv_has ls 8 [(0, .ref (adr 36)), (1, .int (Int32.ofInt a0)), (4, .int (Int32.ofInt v5)), (5, .int (Int32.ofInt (v6 + v7))), (6, .int (Int32.ofInt st.2))] → wH G A s.heap s (LL adr) (wf G adr (tm st.1)) H locs → W p l e { frames := 3, cells := 0, slots := 0, locals := 74 } s m args below meth c H locs 0 0 Q (F0 m 97 ls [])) (fin := fun (r : MI) => ∀ (ls : Array Slot) (H : Heap) (locs : List Loc), lv_has ls 8 [(0, .ref (adr 36)), (1, .int (Int32.ofInt a0)), (4, .int (Int32.ofInt v5)), (5, .int (Int32.ofInt (v6 + v7)))] → wH G A s.heap s (LL adr) (wf G adr (tm r)) H locs → W p l e { frames := 3, cells := 0, slots := 0, locals := 74 } s m args below meth c H locs 0 0 Q (F0 m 204 ls [])) ?_ n _ _ j29 ?_ _ _ _ (lv_sub hl [1, 2, 3, 4, 0] rfl) hw
          · clear h j29 hw hl
            intro ⟨M14, v15⟩ x h k1 k2 ls H locs hl hw
            (try dsimp only at k1 k2 hl hw ⊢)
            unfold l_X8_candidate_97 at h
            (try dsimp only at h)
            refine lv_iload hx hb dX8_candidate_97 (lv_at hl 4 rfl) ?_
            refine lv_aload_n hx hb dX8_candidate_99 rfl (lv_at hl 0 rfl) ?_
            refine m_get (k := 36) (C := RX8) (T := TX8) (N := 18) (ref := "LiftFactorsModel") (v := .ref (adr 42)) hx hb hi hts inX8_u hown hw (by decide) rfl 8 (by decide) q_1 rfl rfl dX8_candidate_100 ?_
            refine lv_bipush (v := Int32.ofInt (7)) hx hb dX8_candidate_103 rfl ?_
            replace h := bnd h
            obtain ⟨v17, e17, h⟩ := h
            refine o_iald hx hb hi hw e17 dX8_candidate_105 ?_
            replace h := bnd h
            obtain ⟨_, hg, h⟩ := h
            refine o_icmp_gt (tgt := 204) hx hb hg dX8_candidate_106 (by decide) (fun hc => ?_) (fun hc => ?_)
            · replace h := ite_t hc h
              cases h
              exact k1 _ rfl _ _ _ (lv_sub hl [0, 1, 2, 3] rfl) hw
            · replace h := ite_f hc h
              refine lv_iconst (v := Int32.ofInt (0)) hx hb dX8_candidate_109 rfl ?_
              refine lv_istore (lv' := [(7, .int (Int32.ofInt (0))), (0, .ref (adr 36)), (1, .int (Int32.ofInt a0)), (4, .int (Int32.ofInt v5)), (5, .int (Int32.ofInt (v6 + v7))), (6, .int (Int32.ofInt v15))]) hx hb dX8_candidate_110 hl (by decide) rfl (fun ls hl => ?_)
              replace h := bnd h
              obtain ⟨M28, j27, h⟩ := h
              refine lp_W (Wst := fun (st : MI × Int) => ∀ (ls : Array Slot) (H : Heap) (locs : List Loc), lv_has ls 8 [(0, .ref (adr 36)), (1, .int (Int32.ofInt a0)), (4, .int (Int32.ofInt v5)), (5, .int (Int32.ofInt (v6 + v7))), (6, .int (Int32.ofInt v15)), (7, .int (Int32.ofInt st.2))] → wH G A s.heap s (LL adr) (wf G adr (tm st.1)) H locs → W p l e { frames := 3, cells := 0, slots := 0, locals := 74 } s m args below meth c H locs 0 0 Q (F0 m 112 ls [])) (fin := fun (r : MI) => ∀ (ls : Array Slot) (H : Heap) (locs : List Loc), lv_has ls 8 [(0, .ref (adr 36)), (1, .int (Int32.ofInt a0)), (4, .int (Int32.ofInt v5)), (5, .int (Int32.ofInt (v6 + v7))), (6, .int (Int32.ofInt v15))] → wH G A s.heap s (LL adr) (wf G adr (tm r)) H locs → W p l e { frames := 3, cells := 0, slots := 0, locals := 74 } s m args below meth c H locs 0 0 Q (F0 m 198 ls [])) ?_ n _ _ j27 ?_ _ _ _ (lv_sub hl [1, 2, 3, 4, 5, 0] rfl) hw
              · clear h j27 hw hl
                intro ⟨M18, v19⟩ x h k1 k2 ls H locs hl hw
                (try dsimp only at k1 k2 hl hw ⊢)
                unfold l_X8_candidate_112 at h
                (try dsimp only at h)
                refine lv_iload hx hb dX8_candidate_112 (lv_at hl 5 rfl) ?_
                refine lv_aload_n hx hb dX8_candidate_114 rfl (lv_at hl 0 rfl) ?_
                refine m_get (k := 36) (C := RX8) (T := TX8) (N := 18) (ref := "LiftFactorsModel") (v := .ref (adr 42)) hx hb hi hts inX8_u hown hw (by decide) rfl 8 (by decide) q_1 rfl rfl dX8_candidate_115 ?_
                refine lv_bipush (v := Int32.ofInt (24)) hx hb dX8_candidate_118 rfl ?_
                refine lv_iload hx hb dX8_candidate_120 (lv_at hl 2 rfl) ?_
                refine o_iadd hx hb dX8_candidate_122 ?_
                replace h := bnd h
                obtain ⟨v20, e20, h⟩ := h
                refine o_iald hx hb hi hw e20 dX8_candidate_123 ?_
                replace h := bnd h
                obtain ⟨_, hg, h⟩ := h
                refine o_icmp_gt (tgt := 198) hx hb hg dX8_candidate_124 (by decide) (fun hc => ?_) (fun hc => ?_)
                · replace h := ite_t hc h
                  cases h
                  exact k1 _ rfl _ _ _ (lv_sub hl [0, 1, 2, 3, 4] rfl) hw
                · replace h := ite_f hc h
                  refine lv_aload_n hx hb dX8_candidate_127 rfl (lv_at hl 0 rfl) ?_
                  refine m_get (k := 36) (C := RX8) (T := TX8) (N := 18) (ref := "LiftFactorsModel") (v := .ref (adr 41)) hx hb hi hts inX8_u hown hw (by decide) rfl 7 (by decide) q_0 rfl rfl dX8_candidate_128 ?_
                  refine lv_sipush (v := Int32.ofInt (264)) hx hb dX8_candidate_131 rfl ?_
                  refine lv_iload hx hb dX8_candidate_134 (lv_at hl 4 rfl) ?_
                  refine o_iadd hx hb dX8_candidate_136 ?_
                  refine lv_iload hx hb dX8_candidate_137 (lv_at hl 5 rfl) ?_
                  refine o_iadd hx hb dX8_candidate_139 ?_
                  refine lv_aload_n hx hb dX8_candidate_140 rfl (lv_at hl 0 rfl) ?_
                  refine m_get (k := 36) (C := RX8) (T := TX8) (N := 18) (ref := "LiftFactorsModel") (v := .ref (adr 41)) hx hb hi hts inX8_u hown hw (by decide) rfl 7 (by decide) q_0 rfl rfl dX8_candidate_141 ?_
                  refine lv_sipush (v := Int32.ofInt (264)) hx hb dX8_candidate_144 rfl ?_
                  refine lv_iload hx hb dX8_candidate_147 (lv_at hl 4 rfl) ?_
                  refine o_iadd hx hb dX8_candidate_149 ?_
                  refine lv_iload hx hb dX8_candidate_150 (lv_at hl 5 rfl) ?_
                  refine o_iadd hx hb dX8_candidate_152 ?_
                  replace h := bnd h
                  obtain ⟨v21, e21, h⟩ := h
                  refine o_lald hx hb hi hw e21 dX8_candidate_153 ?_
                  refine lv_aload_n hx hb dX8_candidate_154 rfl (lv_at hl 0 rfl) ?_
                  refine lv_aload_n hx hb dX8_candidate_155 rfl (lv_at hl 0 rfl) ?_
                  refine m_get (k := 36) (C := RX8) (T := TX8) (N := 18) (ref := "LiftFactorsModel") (v := .ref (adr 41)) hx hb hi hts inX8_u hown hw (by decide) rfl 7 (by decide) q_0 rfl rfl dX8_candidate_156 ?_
                  refine lv_sipush (v := Int32.ofInt (168)) hx hb dX8_candidate_159 rfl ?_
                  refine lv_iload hx hb dX8_candidate_162 (lv_at hl 4 rfl) ?_
                  refine o_iadd hx hb dX8_candidate_164 ?_
                  replace h := bnd h
                  obtain ⟨v22, e22, h⟩ := h
                  refine o_lald hx hb hi hw e22 dX8_candidate_165 ?_
                  refine lv_aload_n hx hb dX8_candidate_166 rfl (lv_at hl 0 rfl) ?_
                  refine m_get (k := 36) (C := RX8) (T := TX8) (N := 18) (ref := "LiftFactorsModel") (v := .ref (adr 41)) hx hb hi hts inX8_u hown hw (by decide) rfl 7 (by decide) q_0 rfl rfl dX8_candidate_167 ?_
                  refine lv_bipush (v := Int32.ofInt (24)) hx hb dX8_candidate_170 rfl ?_
                  refine lv_bipush (v := Int32.ofInt (24)) hx hb dX8_candidate_172 rfl ?_
                  refine lv_iload hx hb dX8_candidate_174 (lv_at hl 2 rfl) ?_
                  refine o_iadd hx hb dX8_candidate_176 ?_
                  refine o_imul hx hb dX8_candidate_177 ?_
                  refine lv_iload hx hb dX8_candidate_178 (lv_at hl 5 rfl) ?_
                  refine o_iadd hx hb dX8_candidate_180 ?_
                  replace h := bnd h
                  obtain ⟨v23, e23, h⟩ := h
                  refine o_lald hx hb hi hw e23 dX8_candidate_181 ?_
                  replace h := bnd h
                  obtain ⟨v24, e24, h⟩ := h
                  refine m_callVl (k := 36) (As := [.long (Int64.ofInt v22), .long (Int64.ofInt v23)]) (rest := [.long (Int64.ofInt v21), .int (Int32.ofInt (((264) + v15) + v19)), .ref (adr 41)]) cx.fix hi hw (cc_X8_product (l := l) (G := G) (sz := H.size) hi e24) (by decide) rfl rfl (w_cV 2 hts q_31 q_32 q_33 q_34 q_35 rfl rfl (by decide) (by decide)) hl.1 rfl (lv_room (Nat.le_of_ble_eq_true rfl)) dX8_candidate_182 (fun H locs hw => ?_)
                  refine o_ladd hx hb dX8_candidate_185 ?_
                  refine lv_aload_n hx hb dX8_candidate_186 rfl (lv_at hl 0 rfl) ?_
                  refine m_get (k := 36) (C := RX8) (T := TX8) (N := 18) (ref := "LiftFactorsModel") (v := .long (Int64.ofInt (M18.1 36 9))) hx hb hi hts inX8_u hown hw (by decide) rfl 9 (by decide) q_29 rfl rfl dX8_candidate_187 ?_
                  replace h := bnd h
                  obtain ⟨v25, e25, h⟩ := h
                  refine o_lrem hx hb e25 dX8_candidate_190 ?_
                  replace h := bnd h
                  obtain ⟨v26, e26, h⟩ := h
                  refine o_last hx hb hi hw e26 dX8_candidate_191 (fun H locs hw => ?_)
                  refine lv_iinc (v := Int32.ofInt (v19 + 1)) (lv' := [(7, .int (Int32.ofInt (v19 + 1))), (0, .ref (adr 36)), (1, .int (Int32.ofInt a0)), (4, .int (Int32.ofInt v5)), (5, .int (Int32.ofInt (v6 + v7))), (6, .int (Int32.ofInt v15))]) hx hb dX8_candidate_192 hl (k := 5) rfl (inc_o _ _) (by decide) rfl (fun ls hl => ?_)
                  refine lv_goto (tgt := 112) hx hb dX8_candidate_195 (by decide) ?_
                  cases h
                  exact k2 _ rfl _ _ _ (lv_sub hl [1, 2, 3, 4, 5, 0] rfl) hw
              · clear hw hl
                intro ls H locs hl hw
                (try dsimp only at hl hw ⊢)
                refine lv_iinc (v := Int32.ofInt (v15 + 1)) (lv' := [(6, .int (Int32.ofInt (v15 + 1))), (0, .ref (adr 36)), (1, .int (Int32.ofInt a0)), (4, .int (Int32.ofInt v5)), (5, .int (Int32.ofInt (v6 + v7)))]) hx hb dX8_candidate_198 hl (k := 4) rfl (inc_o _ _) (by decide) rfl (fun ls hl => ?_)
                refine lv_goto (tgt := 97) hx hb dX8_candidate_201 (by decide) ?_
                cases h
                exact k2 _ rfl _ _ _ (lv_sub hl [1, 2, 3, 4, 0] rfl) hw
          · clear hw hl
            intro ls H locs hl hw
            (try dsimp only at hl hw ⊢)
            refine lv_aload_n hx hb dX8_candidate_204 rfl (lv_at hl 0 rfl) ?_
            refine lv_bipush (v := Int32.ofInt (11)) hx hb dX8_candidate_205 rfl ?_
            refine lv_iload hx hb dX8_candidate_207 (lv_at hl 3 rfl) ?_
            replace h := bnd h
            obtain ⟨v31, e31, h⟩ := h
            refine m_callVv (k := 36) (As := [.int (Int32.ofInt (11)), .int (Int32.ofInt (v6 + v7))]) (rest := []) cx.fix hi hw (cc_X8_trim (l := l) (G := G) (sz := H.size) hi e31) (by decide) rfl rfl (w_cV 2 hts q_11 q_12 q_13 q_14 q_15 rfl rfl (by decide) (by decide)) hl.1 rfl (lv_room (Nat.le_of_ble_eq_true rfl)) dX8_candidate_209 (fun H locs hw => ?_)
            refine lv_aload_n hx hb dX8_candidate_212 rfl (lv_at hl 0 rfl) ?_
            refine lv_bipush (v := Int32.ofInt (11)) hx hb dX8_candidate_213 rfl ?_
            refine lv_bipush (v := Int32.ofInt (7)) hx hb dX8_candidate_215 rfl ?_
            replace h := bnd h
            obtain ⟨v32, e32, h⟩ := h
            refine m_callVv (k := 36) (As := [.int (Int32.ofInt (11)), .int (Int32.ofInt (7))]) (rest := []) cx.fix hi hw (cc_X8_copy (l := l) (G := G) (sz := H.size) hi e32) (by decide) rfl rfl (w_cV 2 hts q_24 q_25 q_26 q_27 q_28 rfl rfl (by decide) (by decide)) hl.1 rfl (lv_room (Nat.le_of_ble_eq_true rfl)) dX8_candidate_217 (fun H locs hw => ?_)
            cases h
            exact kj _ _ _ (lv_sub hl [0, 1, 2] rfl) hw
  · clear hw hl
    intro ls H locs hl hw
    (try dsimp only at hl hw ⊢)
    refine lv_aload_n hx hb dX8_candidate_226 rfl (lv_at hl 0 rfl) ?_
    refine lv_bipush (v := Int32.ofInt (7)) hx hb dX8_candidate_227 rfl ?_
    replace h := bnd h
    obtain ⟨v37, e37, h⟩ := h
    refine m_callVv (k := 36) (As := [.int (Int32.ofInt (7))]) (rest := []) cx.fix hi hw (cc_X8_center (l := l) (G := G) (sz := H.size) hi e37) (by decide) rfl rfl (w_cV 1 hts q_84 q_85 q_86 q_87 q_88 rfl rfl (by decide) (by decide)) hl.1 rfl (lv_room (Nat.le_of_ble_eq_true rfl)) dX8_candidate_229 (fun H locs hw => ?_)
    refine lv_aload_n hx hb dX8_candidate_232 rfl (lv_at hl 0 rfl) ?_
    refine lv_bipush (v := Int32.ofInt (7)) hx hb dX8_candidate_233 rfl ?_
    replace h := bnd h
    obtain ⟨⟨v38, M39⟩, e38, h⟩ := h
    refine m_callVl (k := 36) (As := [.int (Int32.ofInt (7))]) (rest := []) cx.fix hi hw (cc_X8_primitive (l := l) (G := G) (sz := H.size) hi e38) (by decide) rfl rfl (w_cV 1 hts q_64 q_65 q_66 q_67 q_68 rfl rfl (by decide) (by decide)) hl.1 rfl (lv_room (Nat.le_of_ble_eq_true rfl)) dX8_candidate_235 (fun H locs hw => ?_)
    refine lv_pop2_2 hx hb dX8_candidate_238 rfl ?_
    cases h
    exact kr _ _ _ _ dX8_candidate_239 hw
theorem cc_X8_candidate {l : Launch} {G : gG} {adr : Nat → Nat} {sz : Nat} (hi : adi adr) {n : Nat} {a0 : Int} {M M' : MI} (h : f_X8_candidate n a0 M = some M') : mV l yX8_candidate cX8_candidate 8 none { frames := 3, cells := 0, slots := 0, locals := 74 } G adr [.ref (adr 36), .int (Int32.ofInt a0)] (tm M) sz (tm M') := by
  refine wEnter (by decide) (Nat.le_of_ble_eq_true rfl) ?_
  intro p e s m below meth c ls cx hinit hl hsz hw
  exact b_X8_candidate cx hi h (fun pc ls H locs hd hw => w_vret (post := fun (u : Mem) => u = tm M') (lf := fun u => (LL adr, wf G adr u)) cx.1 cx.2.1 cx.2.2.1 cx.2.2.2.2.2.2 (tm M') hw rfl hd) hl hw
