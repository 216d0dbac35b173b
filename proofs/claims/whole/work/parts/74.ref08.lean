theorem q_219 : Cond.fieldLink RX8 214 "LiftFactorsModel" "roots" "I" ∈ uU := uU_in (by decide +kernel) (by decide +kernel)
theorem q_220 : Cond.fieldLink RX8 39 "LiftFactorsModel" "rootAbove" "[I" ∈ uU := uU_in (by decide +kernel) (by decide +kernel)
theorem q_221 : Cond.fieldLink RX8 42 "LiftFactorsModel" "rootBelow" "[I" ∈ uU := uU_in (by decide +kernel) (by decide +kernel)
def l_X8_addRoot_44 (a0 : Int) (a1 : Int) : MI × Int → Option ((MI × Int) ⊕ (MI × Int)) := fun (M8, v9) =>
  Option.bind (gI v9 0) fun _ =>
  if v9 ≤ 0 then
    some (.inl (M8, v9))
  else
    Option.bind (odI M8 46 (v9 - (1))) fun v10 =>
    Option.bind (gI v10 0) fun v11 =>
    Option.bind (gI a1 0) fun v12 =>
    Option.bind (gI a0 0) fun v13 =>
    Option.bind (odI M8 47 (v9 - (1))) fun v14 =>
    Option.bind (gI v14 0) fun v15 =>
    Option.bind (gJ (v10 * a1) (a0 * v14)) fun _ =>
    if (v10 * a1) ≤ (a0 * v14) then
      some (.inl (M8, v9))
    else
      Option.bind (odI M8 46 (v9 - (1))) fun v16 =>
      Option.bind (osI M8 46 v9 v16) fun v17 =>
      Option.bind (odI v17 47 (v9 - (1))) fun v18 =>
      Option.bind (osI v17 47 v9 v18) fun v19 =>
      some (.inr (v19, v9 + (-1)))
def f_X8_addRoot (n : Nat) (a0 : Int) (a1 : Int) (M : MI) : Option MI :=
  Option.bind (gI (-a0) 0) fun v1 =>
  Option.bind (osJ M 41 (24) (-a0)) fun v2 =>
  Option.bind (gI a1 0) fun v3 =>
  Option.bind (osJ v2 41 (25) a1) fun v4 =>
  Option.bind (osI v4 42 (1) (1)) fun v5 =>
  Option.bind (f_X8_divides n (1) (0) (20000000) v5) fun (v6, M7) =>
  Option.bind (gI v6 0) fun _ =>
  if v6 = 0 then
    some M7
  else
    Option.bind (lpF (l_X8_addRoot_44 a0 a1) n (M7, M7.2 36 15)) fun (M21, v22) =>
    Option.bind (osI M21 46 v22 a0) fun v23 =>
    Option.bind (osI v23 47 v22 a1) fun v24 =>
    Option.bind (opI v24 36 15 ((v24.2 36 15) + (1))) fun v25 =>
    some v25
set_option maxRecDepth 100000 in
set_option maxHeartbeats 8000000 in
theorem b_X8_addRoot {p : Program} {l : Launch} {e : Env} {s : State} {m : MethodId} {args : Array Value} {below : List Frame} {meth : Method} {c : Code} {Q : State → Prop} {G : gG} {A : Nat → Prop} {adr : Nat → Nat} (cx : cX p s m args meth c cX8_addRoot none 4 yX8_addRoot.cls) (hi : adi adr) {n : Nat} {a0 : Int} {a1 : Int} {M M' : MI} 
    (h : f_X8_addRoot n a0 a1 M = some M')
    (kr : ∀ (pc : Nat) (ls : Array Slot) (H : Heap) (locs : List Loc), decode cX8_addRoot pc = .ok (.return_, 1) → wH G A s.heap s (LL adr) (wf G adr (tm M')) H locs → W p l e { frames := 2, cells := 0, slots := 0, locals := 56 } s m args below meth c H locs 0 0 Q (F0 m pc ls []))
    {ls : Array Slot} {H : Heap} {locs : List Loc} (hl : lv_has ls 4 [(0, .ref (adr 36)), (1, .int (Int32.ofInt a0)), (2, .int (Int32.ofInt a1))]) (hw : wH G A s.heap s (LL adr) (wf G adr (tm M)) H locs) : W p l e { frames := 2, cells := 0, slots := 0, locals := 56 } s m args below meth c H locs 0 0 Q (F0 m 0 ls []) := by
  obtain ⟨hx, hb, -, -, hown, hts, -⟩ := id cx
  have hown : s.vm.findClass RX8 = some m.cls := hown
  unfold f_X8_addRoot at h
  refine lv_aload_n hx hb dX8_addRoot_0 rfl (lv_at hl 0 rfl) ?_
  refine m_get (k := 36) (C := RX8) (T := TX8) (N := 18) (ref := "LiftFactorsModel") (v := .ref (adr 41)) hx hb hi hts inX8_u hown hw (by decide) rfl 7 (by decide) q_0 rfl rfl dX8_addRoot_1 ?_
  refine lv_bipush (v := Int32.ofInt (24)) hx hb dX8_addRoot_4 rfl ?_
  refine lv_iload_n hx hb dX8_addRoot_6 rfl (lv_at hl 1 rfl) ?_
  refine o_ineg hx hb dX8_addRoot_7 ?_
  replace h := bnd h
  obtain ⟨v1, e1, h⟩ := h
  refine o_i2l hx hb e1 dX8_addRoot_8 ?_
  replace h := bnd h
  obtain ⟨v2, e2, h⟩ := h
  refine o_last hx hb hi hw e2 dX8_addRoot_9 (fun H locs hw => ?_)
  refine lv_aload_n hx hb dX8_addRoot_10 rfl (lv_at hl 0 rfl) ?_
  refine m_get (k := 36) (C := RX8) (T := TX8) (N := 18) (ref := "LiftFactorsModel") (v := .ref (adr 41)) hx hb hi hts inX8_u hown hw (by decide) rfl 7 (by decide) q_0 rfl rfl dX8_addRoot_11 ?_
  refine lv_bipush (v := Int32.ofInt (25)) hx hb dX8_addRoot_14 rfl ?_
  refine lv_iload_n hx hb dX8_addRoot_16 rfl (lv_at hl 2 rfl) ?_
  replace h := bnd h
  obtain ⟨v3, e3, h⟩ := h
  refine o_i2l hx hb e3 dX8_addRoot_17 ?_
  replace h := bnd h
  obtain ⟨v4, e4, h⟩ := h
  refine o_last hx hb hi hw e4 dX8_addRoot_18 (fun H locs hw => ?_)
  refine lv_aload_n hx hb dX8_addRoot_19 rfl (lv_at hl 0 rfl) ?_
  refine m_get (k := 36) (C := RX8) (T := TX8) (N := 18) (ref := "LiftFactorsModel") (v := .ref (adr 42)) hx hb hi hts inX8_u hown hw (by decide) rfl 8 (by decide) q_1 rfl rfl dX8_addRoot_20 ?_
  refine lv_iconst (v := Int32.ofInt (1)) hx hb dX8_addRoot_23 rfl ?_
  refine lv_iconst (v := Int32.ofInt (1)) hx hb dX8_addRoot_24 rfl ?_
  replace h := bnd h
  obtain ⟨v5, e5, h⟩ := h
  refine o_iast hx hb hi hw e5 dX8_addRoot_25 (fun H locs hw => ?_)
  refine lv_aload_n hx hb dX8_addRoot_26 rfl (lv_at hl 0 rfl) ?_
  refine lv_iconst (v := Int32.ofInt (1)) hx hb dX8_addRoot_27 rfl ?_
  refine lv_iconst (v := Int32.ofInt (0)) hx hb dX8_addRoot_28 rfl ?_
  refine lv_ldc2 (v := Int64.ofInt (20000000)) hx hb hown (hts _ q_23) dX8_addRoot_29 ?_
  replace h := bnd h
  obtain ⟨⟨v6, M7⟩, e6, h⟩ := h
  refine m_callVi (k := 36) (As := [.int (Int32.ofInt (1)), .int (Int32.ofInt (0)), .long (Int64.ofInt (20000000))]) (rest := []) cx.fix hi hw (cc_X8_divides (l := l) (G := G) (sz := H.size) hi e6) (by decide) rfl rfl (w_cV 3 hts q_90 q_91 q_92 q_93 q_94 rfl rfl (by decide) (by decide)) hl.1 rfl (lv_room (Nat.le_of_ble_eq_true rfl)) dX8_addRoot_32 (fun H locs hw => ?_)
  replace h := bnd h
  obtain ⟨_, hg, h⟩ := h
  refine o_if_ne (tgt := 39) hx hb hg dX8_addRoot_35 (by decide) (fun hc => ?_) (fun hc => ?_)
  · replace h := ite_f hc h
    refine lv_aload_n hx hb dX8_addRoot_39 rfl (lv_at hl 0 rfl) ?_
    refine m_get (k := 36) (C := RX8) (T := TX8) (N := 18) (ref := "LiftFactorsModel") (v := .int (Int32.ofInt (M7.2 36 15))) hx hb hi hts inX8_u hown hw (by decide) rfl 15 (by decide) q_219 rfl rfl dX8_addRoot_40 ?_
    refine lv_istore_n (lv' := [(3, .int (Int32.ofInt (M7.2 36 15))), (0, .ref (adr 36)), (1, .int (Int32.ofInt a0)), (2, .int (Int32.ofInt a1))]) hx hb dX8_addRoot_43 rfl hl (by decide) rfl (fun ls hl => ?_)
    replace h := bnd h
    obtain ⟨⟨M21, v22⟩, j20, h⟩ := h
    refine lp_W (Wst := fun (st : MI × Int) => ∀ (ls : Array Slot) (H : Heap) (locs : List Loc), lv_has ls 4 [(0, .ref (adr 36)), (1, .int (Int32.ofInt a0)), (2, .int (Int32.ofInt a1)), (3, .int (Int32.ofInt st.2))] → wH G A s.heap s (LL adr) (wf G adr (tm st.1)) H locs → W p l e { frames := 2, cells := 0, slots := 0, locals := 56 } s m args below meth c H locs 0 0 Q (F0 m 44 ls [])) (fin := fun (r : MI × Int) => ∀ (ls : Array Slot) (H : Heap) (locs : List Loc), lv_has ls 4 [(0, .ref (adr 36)), (1, .int (Int32.ofInt a0)), (2, .int (Int32.ofInt a1)), (3, .int (Int32.ofInt r.2))] → wH G A s.heap s (LL adr) (wf G adr (tm r.1)) H locs → W p l e { frames := 2, cells := 0, slots := 0, locals := 56 } s m args below meth c H locs 0 0 Q (F0 m 110 ls [])) ?_ n _ _ j20 ?_ _ _ _ (lv_sub hl [1, 2, 3, 0] rfl) hw
    · clear h j20 hw hl
      intro ⟨M8, v9⟩ x h k1 k2 ls H locs hl hw
      (try dsimp only at k1 k2 hl hw ⊢)
      unfold l_X8_addRoot_44 at h
      (try dsimp only at h)
      refine lv_iload_n hx hb dX8_addRoot_44 rfl (lv_at hl 3 rfl) ?_
      replace h := bnd h
      obtain ⟨_, hg, h⟩ := h
      refine o_if_le (tgt := 110) hx hb hg dX8_addRoot_45 (by decide) (fun hc => ?_) (fun hc => ?_)
      · replace h := ite_t hc h
        cases h
        exact k1 _ rfl _ _ _ (lv_sub hl [0, 1, 2, 3] rfl) hw
      · replace h := ite_f hc h
        refine lv_aload_n hx hb dX8_addRoot_48 rfl (lv_at hl 0 rfl) ?_
        refine m_get (k := 36) (C := RX8) (T := TX8) (N := 18) (ref := "LiftFactorsModel") (v := .ref (adr 46)) hx hb hi hts inX8_u hown hw (by decide) rfl 16 (by decide) q_220 rfl rfl dX8_addRoot_49 ?_
        refine lv_iload_n hx hb dX8_addRoot_52 rfl (lv_at hl 3 rfl) ?_
        refine lv_iconst (v := Int32.ofInt (1)) hx hb dX8_addRoot_53 rfl ?_
        refine o_isub hx hb dX8_addRoot_54 ?_
        replace h := bnd h
        obtain ⟨v10, e10, h⟩ := h
        refine o_iald hx hb hi hw e10 dX8_addRoot_55 ?_
        replace h := bnd h
        obtain ⟨v11, e11, h⟩ := h
        refine o_i2l hx hb e11 dX8_addRoot_56 ?_
        refine lv_iload_n hx hb dX8_addRoot_57 rfl (lv_at hl 2 rfl) ?_
        replace h := bnd h
        obtain ⟨v12, e12, h⟩ := h
        refine o_i2l hx hb e12 dX8_addRoot_58 ?_
        refine o_lmul hx hb dX8_addRoot_59 ?_
        refine lv_iload_n hx hb dX8_addRoot_60 rfl (lv_at hl 1 rfl) ?_
        replace h := bnd h
        obtain ⟨v13, e13, h⟩ := h
        refine o_i2l hx hb e13 dX8_addRoot_61 ?_
        refine lv_aload_n hx hb dX8_addRoot_62 rfl (lv_at hl 0 rfl) ?_
        refine m_get (k := 36) (C := RX8) (T := TX8) (N := 18) (ref := "LiftFactorsModel") (v := .ref (adr 47)) hx hb hi hts inX8_u hown hw (by decide) rfl 17 (by decide) q_221 rfl rfl dX8_addRoot_63 ?_
        refine lv_iload_n hx hb dX8_addRoot_66 rfl (lv_at hl 3 rfl) ?_
        refine lv_iconst (v := Int32.ofInt (1)) hx hb dX8_addRoot_67 rfl ?_
        refine o_isub hx hb dX8_addRoot_68 ?_
        replace h := bnd h
        obtain ⟨v14, e14, h⟩ := h
        refine o_iald hx hb hi hw e14 dX8_addRoot_69 ?_
        replace h := bnd h
        obtain ⟨v15, e15, h⟩ := h
        refine o_i2l hx hb e15 dX8_addRoot_70 ?_
        refine o_lmul hx hb dX8_addRoot_71 ?_
        replace h := bnd h
        obtain ⟨_, hg, h⟩ := h
        refine o_lcmp_le (tgt := 110) hx hb hg dX8_addRoot_72 dX8_addRoot_73 (by decide) (fun hc => ?_) (fun hc => ?_)
        · replace h := ite_t hc h
          cases h
          exact k1 _ rfl _ _ _ (lv_sub hl [0, 1, 2, 3] rfl) hw
        · replace h := ite_f hc h
          refine lv_aload_n hx hb dX8_addRoot_76 rfl (lv_at hl 0 rfl) ?_
          refine m_get (k := 36) (C := RX8) (T := TX8) (N := 18) (ref := "LiftFactorsModel") (v := .ref (adr 46)) hx hb hi hts inX8_u hown hw (by decide) rfl 16 (by decide) q_220 rfl rfl dX8_addRoot_77 ?_
          refine lv_iload_n hx hb dX8_addRoot_80 rfl (lv_at hl 3 rfl) ?_
          refine lv_aload_n hx hb dX8_addRoot_81 rfl (lv_at hl 0 rfl) ?_
          refine m_get (k := 36) (C := RX8) (T := TX8) (N := 18) (ref := "LiftFactorsModel") (v := .ref (adr 46)) hx hb hi hts inX8_u hown hw (by decide) rfl 16 (by decide) q_220 rfl rfl dX8_addRoot_82 ?_
          refine lv_iload_n hx hb dX8_addRoot_85 rfl (lv_at hl 3 rfl) ?_
          refine lv_iconst (v := Int32.ofInt (1)) hx hb dX8_addRoot_86 rfl ?_
          refine o_isub hx hb dX8_addRoot_87 ?_
          replace h := bnd h
          obtain ⟨v16, e16, h⟩ := h
          refine o_iald hx hb hi hw e16 dX8_addRoot_88 ?_
          replace h := bnd h
          obtain ⟨v17, e17, h⟩ := h
          refine o_iast hx hb hi hw e17 dX8_addRoot_89 (fun H locs hw => ?_)
          refine lv_aload_n hx hb dX8_addRoot_90 rfl (lv_at hl 0 rfl) ?_
          refine m_get (k := 36) (C := RX8) (T := TX8) (N := 18) (ref := "LiftFactorsModel") (v := .ref (adr 47)) hx hb hi hts inX8_u hown hw (by decide) rfl 17 (by decide) q_221 rfl rfl dX8_addRoot_91 ?_
          refine lv_iload_n hx hb dX8_addRoot_94 rfl (lv_at hl 3 rfl) ?_
          refine lv_aload_n hx hb dX8_addRoot_95 rfl (lv_at hl 0 rfl) ?_
          refine m_get (k := 36) (C := RX8) (T := TX8) (N := 18) (ref := "LiftFactorsModel") (v := .ref (adr 47)) hx hb hi hts inX8_u hown hw (by decide) rfl 17 (by decide) q_221 rfl rfl dX8_addRoot_96 ?_
          refine lv_iload_n hx hb dX8_addRoot_99 rfl (lv_at hl 3 rfl) ?_
          refine lv_iconst (v := Int32.ofInt (1)) hx hb dX8_addRoot_100 rfl ?_
          refine o_isub hx hb dX8_addRoot_101 ?_
          replace h := bnd h
          obtain ⟨v18, e18, h⟩ := h
          refine o_iald hx hb hi hw e18 dX8_addRoot_102 ?_
          replace h := bnd h
          obtain ⟨v19, e19, h⟩ := h
          refine o_iast hx hb hi hw e19 dX8_addRoot_103 (fun H locs hw => ?_)
          refine lv_iinc (v := Int32.ofInt (v9 + (-1))) (lv' := [(3, .int (Int32.ofInt (v9 + (-1)))), (0, .ref (adr 36)), (1, .int (Int32.ofInt a0)), (2, .int (Int32.ofInt a1))]) hx hb dX8_addRoot_104 hl (k := 3) rfl (inc_o _ _) (by decide) rfl (fun ls hl => ?_)
          refine lv_goto (tgt := 44) hx hb dX8_addRoot_107 (by decide) ?_
          cases h
          exact k2 _ rfl _ _ _ (lv_sub hl [1, 2, 3, 0] rfl) hw
    · clear hw hl
      intro ls H locs hl hw
      (try dsimp only at hl hw ⊢)
      refine lv_aload_n hx hb dX8_addRoot_110 rfl (lv_at hl 0 rfl) ?_
      refine m_get (k := 36) (C := RX8) (T := TX8) (N := 18) (ref := "LiftFactorsModel") (v := .ref (adr 46)) hx hb hi hts inX8_u hown hw (by decide) rfl 16 (by decide) q_220 rfl rfl dX8_addRoot_111 ?_
      refine lv_iload_n hx hb dX8_addRoot_114 rfl (lv_at hl 3 rfl) ?_
      refine lv_iload_n hx hb dX8_addRoot_115 rfl (lv_at hl 1 rfl) ?_
      replace h := bnd h
      obtain ⟨v23, e23, h⟩ := h
      refine o_iast hx hb hi hw e23 dX8_addRoot_116 (fun H locs hw => ?_)
      refine lv_aload_n hx hb dX8_addRoot_117 rfl (lv_at hl 0 rfl) ?_
      refine m_get (k := 36) (C := RX8) (T := TX8) (N := 18) (ref := "LiftFactorsModel") (v := .ref (adr 47)) hx hb hi hts inX8_u hown hw (by decide) rfl 17 (by decide) q_221 rfl rfl dX8_addRoot_118 ?_
      refine lv_iload_n hx hb dX8_addRoot_121 rfl (lv_at hl 3 rfl) ?_
      refine lv_iload_n hx hb dX8_addRoot_122 rfl (lv_at hl 2 rfl) ?_
      replace h := bnd h
      obtain ⟨v24, e24, h⟩ := h
      refine o_iast hx hb hi hw e24 dX8_addRoot_123 (fun H locs hw => ?_)
      refine lv_aload_n hx hb dX8_addRoot_124 rfl (lv_at hl 0 rfl) ?_
      refine lv_dup hx hb dX8_addRoot_125 rfl ?_
      refine m_get (k := 36) (C := RX8) (T := TX8) (N := 18) (ref := "LiftFactorsModel") (v := .int (Int32.ofInt (v24.2 36 15))) hx hb hi hts inX8_u hown hw (by decide) rfl 15 (by decide) q_219 rfl rfl dX8_addRoot_126 ?_
      refine lv_iconst (v := Int32.ofInt (1)) hx hb dX8_addRoot_129 rfl ?_
      refine o_iadd hx hb dX8_addRoot_130 ?_
      replace h := bnd h
      obtain ⟨v25, e25, h⟩ := h
      refine o_putI (k := 36) (C := RX8) (T := TX8) (N := 18) (ref := "LiftFactorsModel") hx hb hi hts inX8_u tyX8 tyX8_ok nmX8 hown hw (by decide) rfl 15 (by decide) q_219 rfl rfl e25 (by decide +kernel) rfl dX8_addRoot_131 (fun H locs hw => ?_)
      cases h
      exact kr _ _ _ _ dX8_addRoot_134 hw
  · replace h := ite_t hc h
    cases h
    exact kr _ _ _ _ dX8_addRoot_38 hw
theorem cc_X8_addRoot {l : Launch} {G : gG} {adr : Nat → Nat} {sz : Nat} (hi : adi adr) {n : Nat} {a0 : Int} {a1 : Int} {M M' : MI} (h : f_X8_addRoot n a0 a1 M = some M') : mV l yX8_addRoot cX8_addRoot 4 none { frames := 2, cells := 0, slots := 0, locals := 56 } G adr [.ref (adr 36), .int (Int32.ofInt a0), .int (Int32.ofInt a1)] (tm M) sz (tm M') := by
  refine wEnter (by decide) (Nat.le_of_ble_eq_true rfl) ?_
  intro p e s m below meth c ls cx hinit hl hsz hw
  exact b_X8_addRoot cx hi h (fun pc ls H locs hd hw => w_vret (post := fun (u : Mem) => u = tm M') (lf := fun u => (LL adr, wf G adr u)) cx.1 cx.2.1 cx.2.2.1 cx.2.2.2.2.2.2 (tm M') hw rfl hd) hl hw
theorem q_222 : Cond.methodLink RX8 217 yX8_addRoot ∈ uU := uU_in (by decide +kernel) (by decide +kernel)
theorem q_223 : Cond.instanceMethod yX8_addRoot ∈ uU := uU_in (by decide +kernel) (by decide +kernel)
theorem q_224 : Cond.selects yX8_addRoot.cls yX8_addRoot yX8_addRoot ∈ uU := uU_in (by decide +kernel) (by decide +kernel)
theorem q_225 : Cond.initialized yX8_addRoot.cls ∈ uU := uU_in (by decide +kernel) (by decide +kernel)
theorem q_226 : Cond.code yX8_addRoot cX8_addRoot 4 none ∈ uU := uU_in (by decide +kernel) (by decide +kernel)
def l_X8_findRoots_24 (M3 : MI) : Int → Option ((Int) ⊕ (Int)) := fun v5 =>
  Option.bind (odJ M3 41 ((0) + v5)) fun v6 =>
  Option.bind (gJ v6 (0)) fun _ =>
  if v6 = (0) then
    some (.inr (v5 + 1))
  else
    some (.inl v5)
def l_X8_findRoots_93 (n : Nat) (v12 : Int) (v15 : Int) (v18 : Int) : MI × Int → Option ((MI) ⊕ (MI × Int)) := fun (M19, v20) =>
  Option.bind (gI v20 v12) fun _ =>
  if v12 < v20 then
    some (.inl M19)
  else
    Option.bind (orI v15 v18) fun v21 =>
    Option.bind (gI v21 0) fun _ =>
    if v21 = 0 then
      Option.bind (orI v12 v20) fun v22 =>
      Option.bind (
        Option.bind (gI v22 0) fun _ =>
        if v22 = 0 then
          Option.bind (gI v20 0) fun v23 =>
          Option.bind (gI v18 0) fun v24 =>
          Option.bind (f_X8_common n v20 v18) fun v25 =>
          Option.bind (gJ v25 (1)) fun _ =>
          if v25 = (1) then
            Option.bind (f_X8_addRoot n v20 v18 M19) fun v26 =>
            Option.bind (f_X8_addRoot n (-v20) v18 v26) fun v27 =>
            some v27
          else
            some M19
        else
          some M19) fun M28 =>
      some (.inr (M28, v20 + 1))
    else
      some (.inl M19)
def l_X8_findRoots_84 (n : Nat) (v12 : Int) (v15 : Int) : MI × Int → Option ((MI) ⊕ (MI × Int)) := fun (M17, v18) =>
  Option.bind (gI v18 v15) fun _ =>
  if v15 < v18 then
    some (.inl M17)
  else
    Option.bind (lpF (l_X8_findRoots_93 n v12 v15 v18) n (M17, (1))) fun M31 =>
    some (.inr (M31, v18 + 1))
def f_X8_findRoots (n : Nat) (M : MI) : Option MI :=
  Option.bind (opI M 36 15 (0)) fun v1 =>
  Option.bind (f_X8_primitive n (0) v1) fun (v2, M3) =>
  Option.bind (odI M3 42 (0)) fun v4 =>
  Option.bind (gI v4 (1)) fun _ =>
  if (1) ≤ v4 then
    Option.bind (lpF (l_X8_findRoots_24 M3) n (0)) fun v8 =>
    Option.bind (
      Option.bind (gI v8 0) fun _ =>
      if v8 ≤ 0 then
        some M3
      else
        Option.bind (f_X8_addRoot n (0) (1) M3) fun v9 =>
        some v9) fun M10 =>
    Option.bind (odJ M10 41 ((0) + v8)) fun v11 =>
    Option.bind (f_X8_abs v11) fun v12 =>
    Option.bind (gJ v12 0) fun v13 =>
    Option.bind (odI M10 42 (0)) fun v14 =>
    Option.bind (odJ M10 41 ((0) + v14)) fun v15 =>
    Option.bind (gJ v15 0) fun v16 =>
    Option.bind (lpF (l_X8_findRoots_84 n v12 v15) n (M10, (1))) fun M33 =>
    some M33
  else
    some M3
set_option maxRecDepth 100000 in
set_option maxHeartbeats 8000000 in
theorem b_X8_findRoots {p : Program} {l : Launch} {e : Env} {s : State} {m : MethodId} {args : Array Value} {below : List Frame} {meth : Method} {c : Code} {Q : State → Prop} {G : gG} {A : Nat → Prop} {adr : Nat → Nat} (cx : cX p s m args meth c cX8_findRoots none 6 yX8_findRoots.cls) (hi : adi adr) {n : Nat} {M M' : MI} 
    (h : f_X8_findRoots n M = some M')
    (kr : ∀ (pc : Nat) (ls : Array Slot) (H : Heap) (locs : List Loc), decode cX8_findRoots pc = .ok (.return_, 1) → wH G A s.heap s (LL adr) (wf G adr (tm M')) H locs → W p l e { frames := 3, cells := 0, slots := 0, locals := 79 } s m args below meth c H locs 0 0 Q (F0 m pc ls []))
    {ls : Array Slot} {H : Heap} {locs : List Loc} (hl : lv_has ls 6 [(0, .ref (adr 36))]) (hw : wH G A s.heap s (LL adr) (wf G adr (tm M)) H locs) : W p l e { frames := 3, cells := 0, slots := 0, locals := 79 } s m args below meth c H locs 0 0 Q (F0 m 0 ls []) := by
  obtain ⟨hx, hb, -, -, hown, hts, -⟩ := id cx
  have hown : s.vm.findClass RX8 = some m.cls := hown
  unfold f_X8_findRoots at h
  refine lv_aload_n hx hb dX8_findRoots_0 rfl (lv_at hl 0 rfl) ?_
  refine lv_iconst (v := Int32.ofInt (0)) hx hb dX8_findRoots_1 rfl ?_
  replace h := bnd h
  obtain ⟨v1, e1, h⟩ := h
  refine o_putI (k := 36) (C := RX8) (T := TX8) (N := 18) (ref := "LiftFactorsModel") hx hb hi hts inX8_u tyX8 tyX8_ok nmX8 hown hw (by decide) rfl 15 (by decide) q_219 rfl rfl e1 (by decide +kernel) rfl dX8_findRoots_2 (fun H locs hw => ?_)
  refine lv_aload_n hx hb dX8_findRoots_5 rfl (lv_at hl 0 rfl) ?_
  refine lv_iconst (v := Int32.ofInt (0)) hx hb dX8_findRoots_6 rfl ?_
  replace h := bnd h
  obtain ⟨⟨v2, M3⟩, e2, h⟩ := h
  refine m_callVl (k := 36) (As := [.int (Int32.ofInt (0))]) (rest := []) cx.fix hi hw (cc_X8_primitive (l := l) (G := G) (sz := H.size) hi e2) (by decide) rfl rfl (w_cV 1 hts q_64 q_65 q_66 q_67 q_68 rfl rfl (by decide) (by decide)) hl.1 rfl (lv_room (Nat.le_of_ble_eq_true rfl)) dX8_findRoots_7 (fun H locs hw => ?_)
  refine lv_pop2_2 hx hb dX8_findRoots_10 rfl ?_
  refine lv_aload_n hx hb dX8_findRoots_11 rfl (lv_at hl 0 rfl) ?_
  refine m_get (k := 36) (C := RX8) (T := TX8) (N := 18) (ref := "LiftFactorsModel") (v := .ref (adr 42)) hx hb hi hts inX8_u hown hw (by decide) rfl 8 (by decide) q_1 rfl rfl dX8_findRoots_12 ?_
  refine lv_iconst (v := Int32.ofInt (0)) hx hb dX8_findRoots_15 rfl ?_
  replace h := bnd h
  obtain ⟨v4, e4, h⟩ := h
  refine o_iald hx hb hi hw e4 dX8_findRoots_16 ?_
  refine lv_iconst (v := Int32.ofInt (1)) hx hb dX8_findRoots_17 rfl ?_
  replace h := bnd h
  obtain ⟨_, hg, h⟩ := h
  refine o_icmp_ge (tgt := 22) hx hb hg dX8_findRoots_18 (by decide) (fun hc => ?_) (fun hc => ?_)
  · replace h := ite_t hc h
    refine lv_iconst (v := Int32.ofInt (0)) hx hb dX8_findRoots_22 rfl ?_
    refine lv_istore_n (lv' := [(1, .int (Int32.ofInt (0))), (0, .ref (adr 36))]) hx hb dX8_findRoots_23 rfl hl (by decide) rfl (fun ls hl => ?_)
    replace h := bnd h
    obtain ⟨v8, j7, h⟩ := h
    refine lp_W (Wst := fun (st : Int) => ∀ (ls : Array Slot) (H : Heap) (locs : List Loc), lv_has ls 6 [(0, .ref (adr 36)), (1, .int (Int32.ofInt st))] → wH G A s.heap s (LL adr) (wf G adr (tm M3)) H locs → W p l e { frames := 3, cells := 0, slots := 0, locals := 79 } s m args below meth c H locs 0 0 Q (F0 m 24 ls [])) (fin := fun (r : Int) => ∀ (ls : Array Slot) (H : Heap) (locs : List Loc), lv_has ls 6 [(0, .ref (adr 36)), (1, .int (Int32.ofInt r))] → wH G A s.heap s (LL adr) (wf G adr (tm M3)) H locs → W p l e { frames := 3, cells := 0, slots := 0, locals := 79 } s m args below meth c H locs 0 0 Q (F0 m 43 ls [])) ?_ n _ _ j7 ?_ _ _ _ (lv_sub hl [1, 0] rfl) hw
    · clear h j7 hw hl
      intro v5 x h k1 k2 ls H locs hl hw
      (try dsimp only at k1 k2 hl hw ⊢)
      unfold l_X8_findRoots_24 at h
      (try dsimp only at h)
      refine lv_aload_n hx hb dX8_findRoots_24 rfl (lv_at hl 0 rfl) ?_
      refine m_get (k := 36) (C := RX8) (T := TX8) (N := 18) (ref := "LiftFactorsModel") (v := .ref (adr 41)) hx hb hi hts inX8_u hown hw (by decide) rfl 7 (by decide) q_0 rfl rfl dX8_findRoots_25 ?_
      refine lv_iconst (v := Int32.ofInt (0)) hx hb dX8_findRoots_28 rfl ?_
      refine lv_iload_n hx hb dX8_findRoots_29 rfl (lv_at hl 1 rfl) ?_
      refine o_iadd hx hb dX8_findRoots_30 ?_
      replace h := bnd h
      obtain ⟨v6, e6, h⟩ := h
      refine o_lald hx hb hi hw e6 dX8_findRoots_31 ?_
      refine lv_lconst (v := Int64.ofInt (0)) hx hb dX8_findRoots_32 (by decide) ?_
      replace h := bnd h
      obtain ⟨_, hg, h⟩ := h
      refine o_lcmp_ne (tgt := 43) hx hb hg dX8_findRoots_33 dX8_findRoots_34 (by decide) (fun hc => ?_) (fun hc => ?_)
      · replace h := ite_f hc h
        cases h
        exact k1 _ rfl _ _ _ (lv_sub hl [0, 1] rfl) hw
      · replace h := ite_t hc h
        refine lv_iinc (v := Int32.ofInt (v5 + 1)) (lv' := [(1, .int (Int32.ofInt (v5 + 1))), (0, .ref (adr 36))]) hx hb dX8_findRoots_37 hl (k := 1) rfl (inc_o _ _) (by decide) rfl (fun ls hl => ?_)
        refine lv_goto (tgt := 24) hx hb dX8_findRoots_40 (by decide) ?_
        cases h
        exact k2 _ rfl _ _ _ (lv_sub hl [1, 0] rfl) hw
    · clear hw hl
      intro ls H locs hl hw
      (try dsimp only at hl hw ⊢)
      refine lv_iload_n hx hb dX8_findRoots_43 rfl (lv_at hl 1 rfl) ?_
      replace h := bnd h
      obtain ⟨M10, j34, h⟩ := h
      have kj : ∀ (ls : Array Slot) (H : Heap) (locs : List Loc), lv_has ls 6 [(0, .ref (adr 36)), (1, .int (Int32.ofInt v8))] → wH G A s.heap s (LL adr) (wf G adr (tm M10)) H locs → W p l e { frames := 3, cells := 0, slots := 0, locals := 79 } s m args below meth c H locs 0 0 Q (F0 m 53 ls []) := by
        intro ls H locs hl hw
        refine lv_aload_n hx hb dX8_findRoots_53 rfl (lv_at hl 0 rfl) ?_
        refine m_get (k := 36) (C := RX8) (T := TX8) (N := 18) (ref := "LiftFactorsModel") (v := .ref (adr 41)) hx hb hi hts inX8_u hown hw (by decide) rfl 7 (by decide) q_0 rfl rfl dX8_findRoots_54 ?_
        refine lv_iconst (v := Int32.ofInt (0)) hx hb dX8_findRoots_57 rfl ?_
        refine lv_iload_n hx hb dX8_findRoots_58 rfl (lv_at hl 1 rfl) ?_
        refine o_iadd hx hb dX8_findRoots_59 ?_
        replace h := bnd h
        obtain ⟨v11, e11, h⟩ := h
        refine o_lald hx hb hi hw e11 dX8_findRoots_60 ?_
        replace h := bnd h
        obtain ⟨v12, e12, h⟩ := h
        refine m_callSl (As := [.long (Int64.ofInt v11)]) (rest := []) cx.fix hw (cc_X8_abs (l := l) (G := G) (sz := H.size) (M := M10) hi e12) (w_cS 1 hts q_2 q_3 q_4 q_5 rfl rfl (by decide) (by decide)) hl.1 rfl (lv_room (Nat.le_of_ble_eq_true rfl)) dX8_findRoots_61 (fun H locs hw => ?_)
        replace h := bnd h
        obtain ⟨v13, e13, h⟩ := h
        refine o_l2i hx hb e13 dX8_findRoots_64 ?_
        refine lv_istore_n (lv' := [(2, .int (Int32.ofInt v12)), (0, .ref (adr 36)), (1, .int (Int32.ofInt v8))]) hx hb dX8_findRoots_65 rfl hl (by decide) rfl (fun ls hl => ?_)
        refine lv_aload_n hx hb dX8_findRoots_66 rfl (lv_at hl 1 rfl) ?_
        refine m_get (k := 36) (C := RX8) (T := TX8) (N := 18) (ref := "LiftFactorsModel") (v := .ref (adr 41)) hx hb hi hts inX8_u hown hw (by decide) rfl 7 (by decide) q_0 rfl rfl dX8_findRoots_67 ?_
        refine lv_iconst (v := Int32.ofInt (0)) hx hb dX8_findRoots_70 rfl ?_
        refine lv_aload_n hx hb dX8_findRoots_71 rfl (lv_at hl 1 rfl) ?_
        refine m_get (k := 36) (C := RX8) (T := TX8) (N := 18) (ref := "LiftFactorsModel") (v := .ref (adr 42)) hx hb hi hts inX8_u hown hw (by decide) rfl 8 (by decide) q_1 rfl rfl dX8_findRoots_72 ?_
        refine lv_iconst (v := Int32.ofInt (0)) hx hb dX8_findRoots_75 rfl ?_
        replace h := bnd h
        obtain ⟨v14, e14, h⟩ := h
        refine o_iald hx hb hi hw e14 dX8_findRoots_76 ?_
        refine o_iadd hx hb dX8_findRoots_77 ?_
        replace h := bnd h
        obtain ⟨v15, e15, h⟩ := h
        refine o_lald hx hb hi hw e15 dX8_findRoots_78 ?_
        replace h := bnd h
        obtain ⟨v16, e16, h⟩ := h
        refine o_l2i hx hb e16 dX8_findRoots_79 ?_
        refine lv_istore_n (lv' := [(3, .int (Int32.ofInt v15)), (2, .int (Int32.ofInt v12)), (0, .ref (adr 36)), (1, .int (Int32.ofInt v8))]) hx hb dX8_findRoots_80 rfl hl (by decide) rfl (fun ls hl => ?_)
        refine lv_iconst (v := Int32.ofInt (1)) hx hb dX8_findRoots_81 rfl ?_
        refine lv_istore (lv' := [(4, .int (Int32.ofInt (1))), (3, .int (Int32.ofInt v15)), (2, .int (Int32.ofInt v12)), (0, .ref (adr 36)), (1, .int (Int32.ofInt v8))]) hx hb dX8_findRoots_82 hl (by decide) rfl (fun ls hl => ?_)
        replace h := bnd h
        obtain ⟨M33, j32, h⟩ := h
        refine lp_W (Wst := fun (st : MI × Int) => ∀ (ls : Array Slot) (H : Heap) (locs : List Loc), lv_has ls 6 [(0, .ref (adr 36)), (2, .int (Int32.ofInt v12)), (3, .int (Int32.ofInt v15)), (4, .int (Int32.ofInt st.2))] → wH G A s.heap s (LL adr) (wf G adr (tm st.1)) H locs → W p l e { frames := 3, cells := 0, slots := 0, locals := 79 } s m args below meth c H locs 0 0 Q (F0 m 84 ls [])) (fin := fun (r : MI) => ∀ (ls : Array Slot) (H : Heap) (locs : List Loc), lv_has ls 6 [] → wH G A s.heap s (LL adr) (wf G adr (tm r)) H locs → W p l e { frames := 3, cells := 0, slots := 0, locals := 79 } s m args below meth c H locs 0 0 Q (F0 m 156 ls [])) ?_ n _ _ j32 ?_ _ _ _ (lv_sub hl [3, 2, 1, 0] rfl) hw
        · clear h j32 hw hl
          intro ⟨M17, v18⟩ x h k1 k2 ls H locs hl hw
          (try dsimp only at k1 k2 hl hw ⊢)
          unfold l_X8_findRoots_84 at h
          (try dsimp only at h)
          refine lv_iload hx hb dX8_findRoots_84 (lv_at hl 3 rfl) ?_
          refine lv_iload_n hx hb dX8_findRoots_86 rfl (lv_at hl 2 rfl) ?_
          replace h := bnd h
          obtain ⟨_, hg, h⟩ := h
          refine o_icmp_gt (tgt := 156) hx hb hg dX8_findRoots_87 (by decide) (fun hc => ?_) (fun hc => ?_)
          · replace h := ite_t hc h
            cases h
            exact k1 _ rfl _ _ _ (lv_sub hl [] rfl) hw
          · replace h := ite_f hc h
            refine lv_iconst (v := Int32.ofInt (1)) hx hb dX8_findRoots_90 rfl ?_
            refine lv_istore (lv' := [(5, .int (Int32.ofInt (1))), (0, .ref (adr 36)), (2, .int (Int32.ofInt v12)), (3, .int (Int32.ofInt v15)), (4, .int (Int32.ofInt v18))]) hx hb dX8_findRoots_91 hl (by decide) rfl (fun ls hl => ?_)
            replace h := bnd h
            obtain ⟨M31, j30, h⟩ := h
            refine lp_W (Wst := fun (st : MI × Int) => ∀ (ls : Array Slot) (H : Heap) (locs : List Loc), lv_has ls 6 [(0, .ref (adr 36)), (2, .int (Int32.ofInt v12)), (3, .int (Int32.ofInt v15)), (4, .int (Int32.ofInt v18)), (5, .int (Int32.ofInt st.2))] → wH G A s.heap s (LL adr) (wf G adr (tm st.1)) H locs → W p l e { frames := 3, cells := 0, slots := 0, locals := 79 } s m args below meth c H locs 0 0 Q (F0 m 93 ls [])) (fin := fun (r : MI) => ∀ (ls : Array Slot) (H : Heap) (locs : List Loc), lv_has ls 6 [(0, .ref (adr 36)), (2, .int (Int32.ofInt v12)), (3, .int (Int32.ofInt v15)), (4, .int (Int32.ofInt v18))] → wH G A s.heap s (LL adr) (wf G adr (tm r)) H locs → W p l e { frames := 3, cells := 0, slots := 0, locals := 79 } s m args below meth c H locs 0 0 Q (F0 m 150 ls [])) ?_ n _ _ j30 ?_ _ _ _ (lv_sub hl [1, 2, 3, 4, 0] rfl) hw
            · clear h j30 hw hl
              intro ⟨M19, v20⟩ x h k1 k2 ls H locs hl hw
              (try dsimp only at k1 k2 hl hw ⊢)
              unfold l_X8_findRoots_93 at h
              (try dsimp only at h)
              refine lv_iload hx hb dX8_findRoots_93 (lv_at hl 4 rfl) ?_
              refine lv_iload_n hx hb dX8_findRoots_95 rfl (lv_at hl 1 rfl) ?_
              replace h := bnd h
              obtain ⟨_, hg, h⟩ := h
              refine o_icmp_gt (tgt := 150) hx hb hg dX8_findRoots_96 (by decide) (fun hc => ?_) (fun hc => ?_)
              · replace h := ite_t hc h
                cases h
                exact k1 _ rfl _ _ _ (lv_sub hl [0, 1, 2, 3] rfl) hw
              · replace h := ite_f hc h
                refine lv_iload_n hx hb dX8_findRoots_99 rfl (lv_at hl 2 rfl) ?_
                refine lv_iload hx hb dX8_findRoots_100 (lv_at hl 3 rfl) ?_
                replace h := bnd h
                obtain ⟨v21, e21, h⟩ := h
                refine o_irem hx hb e21 dX8_findRoots_102 ?_
                replace h := bnd h
                obtain ⟨_, hg, h⟩ := h
                refine o_if_ne (tgt := 150) hx hb hg dX8_findRoots_103 (by decide) (fun hc => ?_) (fun hc => ?_)
                · replace h := ite_f hc h
                  cases h
                  exact k1 _ rfl _ _ _ (lv_sub hl [0, 1, 2, 3] rfl) hw
                · replace h := ite_t hc h
                  refine lv_iload_n hx hb dX8_findRoots_106 rfl (lv_at hl 1 rfl) ?_
                  refine lv_iload hx hb dX8_findRoots_107 (lv_at hl 4 rfl) ?_
                  replace h := bnd h
                  obtain ⟨v22, e22, h⟩ := h
                  refine o_irem hx hb e22 dX8_findRoots_109 ?_
                  replace h := bnd h
                  obtain ⟨M28, j29, h⟩ := h
                  have kj : ∀ (ls : Array Slot) (H : Heap) (locs : List Loc), lv_has ls 6 [(0, .ref (adr 36)), (2, .int (Int32.ofInt v12)), (3, .int (Int32.ofInt v15)), (4, .int (Int32.ofInt v18)), (5, .int (Int32.ofInt v20))] → wH G A s.heap s (LL adr) (wf G adr (tm M28)) H locs → W p l e { frames := 3, cells := 0, slots := 0, locals := 79 } s m args below meth c H locs 0 0 Q (F0 m 144 ls []) := by
                    intro ls H locs hl hw
                    refine lv_iinc (v := Int32.ofInt (v20 + 1)) (lv' := [(5, .int (Int32.ofInt (v20 + 1))), (0, .ref (adr 36)), (2, .int (Int32.ofInt v12)), (3, .int (Int32.ofInt v15)), (4, .int (Int32.ofInt v18))]) hx hb dX8_findRoots_144 hl (k := 4) rfl (inc_o _ _) (by decide) rfl (fun ls hl => ?_)
                    refine lv_goto (tgt := 93) hx hb dX8_findRoots_147 (by decide) ?_
                    cases h
                    exact k2 _ rfl _ _ _ (lv_sub hl [1, 2, 3, 4, 0] rfl) hw
                  clear h
                  replace h := j29
                  clear j29
                  replace h := bnd h
                  obtain ⟨_, hg, h⟩ := h
                  refine o_if_ne (tgt := 144) hx hb hg dX8_findRoots_110 (by decide) (fun hc => ?_) (fun hc => ?_)
                  · replace h := ite_f hc h
                    cases h
                    exact kj _ _ _ (lv_sub hl [0, 1, 2, 3, 4] rfl) hw
                  · replace h := ite_t hc h
                    refine lv_iload hx hb dX8_findRoots_113 (lv_at hl 4 rfl) ?_
                    replace h := bnd h
                    obtain ⟨v23, e23, h⟩ := h
                    refine o_i2l hx hb e23 dX8_findRoots_115 ?_
                    refine lv_iload hx hb dX8_findRoots_116 (lv_at hl 3 rfl) ?_
                    replace h := bnd h
                    obtain ⟨v24, e24, h⟩ := h
                    refine o_i2l hx hb e24 dX8_findRoots_118 ?_
                    replace h := bnd h
                    obtain ⟨v25, e25, h⟩ := h
                    refine m_callSl (As := [.long (Int64.ofInt v20), .long (Int64.ofInt v18)]) (rest := []) cx.fix hw (cc_X8_common (l := l) (G := G) (sz := H.size) (M := M19) hi e25) (w_cS 2 hts q_6 q_7 q_8 q_9 rfl rfl (by decide) (by decide)) hl.1 rfl (lv_room (Nat.le_of_ble_eq_true rfl)) dX8_findRoots_119 (fun H locs hw => ?_)
                    refine lv_lconst (v := Int64.ofInt (1)) hx hb dX8_findRoots_122 (by decide) ?_
                    replace h := bnd h
                    obtain ⟨_, hg, h⟩ := h
                    refine o_lcmp_ne (tgt := 144) hx hb hg dX8_findRoots_123 dX8_findRoots_124 (by decide) (fun hc => ?_) (fun hc => ?_)
                    · replace h := ite_f hc h
                      cases h
                      exact kj _ _ _ (lv_sub hl [0, 1, 2, 3, 4] rfl) hw
                    · replace h := ite_t hc h
                      refine lv_aload_n hx hb dX8_findRoots_127 rfl (lv_at hl 0 rfl) ?_
                      refine lv_iload hx hb dX8_findRoots_128 (lv_at hl 4 rfl) ?_
                      refine lv_iload hx hb dX8_findRoots_130 (lv_at hl 3 rfl) ?_
                      replace h := bnd h
                      obtain ⟨v26, e26, h⟩ := h
                      refine m_callVv (k := 36) (As := [.int (Int32.ofInt v20), .int (Int32.ofInt v18)]) (rest := []) cx.fix hi hw (cc_X8_addRoot (l := l) (G := G) (sz := H.size) hi e26) (by decide) rfl rfl (w_cV 2 hts q_222 q_223 q_224 q_225 q_226 rfl rfl (by decide) (by decide)) hl.1 rfl (lv_room (Nat.le_of_ble_eq_true rfl)) dX8_findRoots_132 (fun H locs hw => ?_)
                      refine lv_aload_n hx hb dX8_findRoots_135 rfl (lv_at hl 0 rfl) ?_
                      refine lv_iload hx hb dX8_findRoots_136 (lv_at hl 4 rfl) ?_
                      refine o_ineg hx hb dX8_findRoots_138 ?_
                      refine lv_iload hx hb dX8_findRoots_139 (lv_at hl 3 rfl) ?_
                      replace h := bnd h
                      obtain ⟨v27, e27, h⟩ := h
                      refine m_callVv (k := 36) (As := [.int (Int32.ofInt (-v20)), .int (Int32.ofInt v18)]) (rest := []) cx.fix hi hw (cc_X8_addRoot (l := l) (G := G) (sz := H.size) hi e27) (by decide) rfl rfl (w_cV 2 hts q_222 q_223 q_224 q_225 q_226 rfl rfl (by decide) (by decide)) hl.1 rfl (lv_room (Nat.le_of_ble_eq_true rfl)) dX8_findRoots_141 (fun H locs hw => ?_)
                      cases h
                      exact kj _ _ _ (lv_sub hl [0, 1, 2, 3, 4] rfl) hw
            · clear hw hl
              intro ls H locs hl hw
              (try dsimp only at hl hw ⊢)
              refine lv_iinc (v := Int32.ofInt (v18 + 1)) (lv' := [(4, .int (Int32.ofInt (v18 + 1))), (0, .ref (adr 36)), (2, .int (Int32.ofInt v12)), (3, .int (Int32.ofInt v15))]) hx hb dX8_findRoots_150 hl (k := 3) rfl (inc_o _ _) (by decide) rfl (fun ls hl => ?_)
              refine lv_goto (tgt := 84) hx hb dX8_findRoots_153 (by decide) ?_
              cases h
              exact k2 _ rfl _ _ _ (lv_sub hl [1, 2, 3, 0] rfl) hw
        · clear hw hl
          intro ls H locs hl hw
          (try dsimp only at hl hw ⊢)
          cases h
          exact kr _ _ _ _ dX8_findRoots_156 hw
      clear h
      replace h := j34
      clear j34
      replace h := bnd h
      obtain ⟨_, hg, h⟩ := h
      refine o_if_le (tgt := 53) hx hb hg dX8_findRoots_44 (by decide) (fun hc => ?_) (fun hc => ?_)
      · replace h := ite_t hc h
        cases h
        exact kj _ _ _ (lv_sub hl [0, 1] rfl) hw
      · replace h := ite_f hc h
        refine lv_aload_n hx hb dX8_findRoots_47 rfl (lv_at hl 0 rfl) ?_
        refine lv_iconst (v := Int32.ofInt (0)) hx hb dX8_findRoots_48 rfl ?_
        refine lv_iconst (v := Int32.ofInt (1)) hx hb dX8_findRoots_49 rfl ?_
        replace h := bnd h
        obtain ⟨v9, e9, h⟩ := h
        refine m_callVv (k := 36) (As := [.int (Int32.ofInt (0)), .int (Int32.ofInt (1))]) (rest := []) cx.fix hi hw (cc_X8_addRoot (l := l) (G := G) (sz := H.size) hi e9) (by decide) rfl rfl (w_cV 2 hts q_222 q_223 q_224 q_225 q_226 rfl rfl (by decide) (by decide)) hl.1 rfl (lv_room (Nat.le_of_ble_eq_true rfl)) dX8_findRoots_50 (fun H locs hw => ?_)
        cases h
        exact kj _ _ _ (lv_sub hl [0, 1] rfl) hw
  · replace h := ite_f hc h
    cases h
    exact kr _ _ _ _ dX8_findRoots_21 hw
theorem cc_X8_findRoots {l : Launch} {G : gG} {adr : Nat → Nat} {sz : Nat} (hi : adi adr) {n : Nat} {M M' : MI} (h : f_X8_findRoots n M = some M') : mV l yX8_findRoots cX8_findRoots 6 none { frames := 3, cells := 0, slots := 0, locals := 79 } G adr [.ref (adr 36)] (tm M) sz (tm M') := by
  refine wEnter (by decide) (Nat.le_of_ble_eq_true rfl) ?_
  intro p e s m below meth c ls cx hinit hl hsz hw
  exact b_X8_findRoots cx hi h (fun pc ls H locs hd hw => w_vret (post := fun (u : Mem) => u = tm M') (lf := fun u => (LL adr, wf G adr u)) cx.1 cx.2.1 cx.2.2.1 cx.2.2.2.2.2.2 (tm M') hw rfl hd) hl hw
theorem q_227 : Cond.methodLink RX8 220 yX8_findRoots ∈ uU := uU_in (by decide +kernel) (by decide +kernel)
theorem q_228 : Cond.instanceMethod yX8_findRoots ∈ uU := uU_in (by decide +kernel) (by decide +kernel)
theorem q_229 : Cond.selects yX8_findRoots.cls yX8_findRoots yX8_findRoots ∈ uU := uU_in (by decide +kernel) (by decide +kernel)
theorem q_230 : Cond.initialized yX8_findRoots.cls ∈ uU := uU_in (by decide +kernel) (by decide +kernel)
theorem q_231 : Cond.code yX8_findRoots cX8_findRoots 6 none ∈ uU := uU_in (by decide +kernel) (by decide +kernel)
def f_X8_root (n : Nat) (a0 : Int) (a1 : Int) (a2 : Int) (M : MI) : Option (Int × MI) :=
  Option.bind (f_X8_isPoly a0) fun v1 =>
  Option.bind (
    Option.bind (gI v1 0) fun _ =>
    if v1 = 0 then
      some (1)
    else
      some (0)) fun v2 =>
  Option.bind (opI M 36 3 v2) fun v3 =>
  Option.bind (gI (v3.2 36 3) 0) fun _ =>
  if (v3.2 36 3) = 0 then
    Option.bind (f_X8_load n a0 (0) v3) fun v4 =>
    Option.bind (opI v4 36 15 (0)) fun v5 =>
    Option.bind (odI v5 42 (0)) fun v6 =>
    Option.bind (
      Option.bind (gI v6 0) fun _ =>
      if v6 < 0 then
        some v5
      else
        Option.bind (f_X8_findRoots n v5) fun v7 =>
        some v7) fun M8 =>
    Option.bind (
      Option.bind (gI a1 0) fun _ =>
      if a1 < 0 then
        some (2)
      else
        Option.bind (gI a1 (M8.2 36 15)) fun _ =>
        if (M8.2 36 15) ≤ a1 then
          some (2)
        else
          Option.bind (gI a2 0) fun _ =>
          if a2 < 0 then
            some (2)
          else
            Option.bind (gI a2 (1)) fun _ =>
            if a2 ≤ (1) then
              some (0)
            else
              some (2)) fun v9 =>
    Option.bind (opI M8 36 3 v9) fun v10 =>
    Option.bind (gI (v10.2 36 3) 0) fun _ =>
    if (v10.2 36 3) = 0 then
      Option.bind (
        Option.bind (gI a2 0) fun _ =>
        if a2 = 0 then
          Option.bind (odI v10 46 a1) fun v12 =>
          some v12
        else
          Option.bind (odI v10 47 a1) fun v11 =>
          some v11) fun v13 =>
      some (v13, v10)
    else
      some ((0), v10)
  else
    some ((0), v3)
set_option maxRecDepth 100000 in
set_option maxHeartbeats 8000000 in
theorem b_X8_root {p : Program} {l : Launch} {e : Env} {s : State} {m : MethodId} {args : Array Value} {below : List Frame} {meth : Method} {c : Code} {Q : State → Prop} {G : gG} {A : Nat → Prop} {adr : Nat → Nat} (cx : cX p s m args meth c cX8_root (some .int) 4 yX8_root.cls) (hi : adi adr) {n : Nat} {a0 : Int} {a1 : Int} {a2 : Int} {M M' : MI} {r : Int} 
    (h : f_X8_root n a0 a1 a2 M = some (r, M'))
    (kr : ∀ (pc : Nat) (ls : Array Slot) (H : Heap) (locs : List Loc), decode cX8_root pc = .ok (.ireturn, 1) → wH G A s.heap s (LL adr) (wf G adr (tm M')) H locs → W p l e { frames := 4, cells := 0, slots := 0, locals := 104 } s m args below meth c H locs 0 0 Q (F0 m pc ls [.int (Int32.ofInt r)]))
    {ls : Array Slot} {H : Heap} {locs : List Loc} (hl : lv_has ls 4 [(0, .ref (adr 36)), (1, .int (Int32.ofInt a0)), (2, .int (Int32.ofInt a1)), (3, .int (Int32.ofInt a2))]) (hw : wH G A s.heap s (LL adr) (wf G adr (tm M)) H locs) : W p l e { frames := 4, cells := 0, slots := 0, locals := 104 } s m args below meth c H locs 0 0 Q (F0 m 0 ls []) := by
  obtain ⟨hx, hb, -, -, hown, hts, -⟩ := id cx
  have hown : s.vm.findClass RX8 = some m.cls := hown
  unfold f_X8_root at h
  refine lv_aload_n hx hb dX8_root_0 rfl (lv_at hl 0 rfl) ?_
  refine lv_iload_n hx hb dX8_root_1 rfl (lv_at hl 1 rfl) ?_
  replace h := bnd h
  obtain ⟨v1, e1, h⟩ := h
  refine m_callSi (As := [.int (Int32.ofInt a0)]) (rest := [.ref (adr 36)]) cx.fix hw (cc_X8_isPoly (l := l) (G := G) (sz := H.size) (M := M) hi e1) (w_cS 1 hts q_167 q_168 q_169 q_170 rfl rfl (by decide) (by decide)) hl.1 rfl (lv_room (Nat.le_of_ble_eq_true rfl)) dX8_root_2 (fun H locs hw => ?_)
  replace h := bnd h
  obtain ⟨v2, j17, h⟩ := h
  have kj : ∀ (ls : Array Slot) (H : Heap) (locs : List Loc), lv_has ls 4 [(0, .ref (adr 36)), (1, .int (Int32.ofInt a0)), (2, .int (Int32.ofInt a1)), (3, .int (Int32.ofInt a2))] → wH G A s.heap s (LL adr) (wf G adr (tm M)) H locs → W p l e { frames := 4, cells := 0, slots := 0, locals := 104 } s m args below meth c H locs 0 0 Q (F0 m 13 ls [.int (Int32.ofInt v2), .ref (adr 36)]) := by
    intro ls H locs hl hw
    replace h := bnd h
    obtain ⟨v3, e3, h⟩ := h
    refine o_putI (k := 36) (C := RX8) (T := TX8) (N := 18) (ref := "LiftFactorsModel") hx hb hi hts inX8_u tyX8 tyX8_ok nmX8 hown hw (by decide) rfl 3 (by decide) q_171 rfl rfl e3 (by decide +kernel) rfl dX8_root_13 (fun H locs hw => ?_)
    refine lv_aload_n hx hb dX8_root_16 rfl (lv_at hl 0 rfl) ?_
    refine m_get (k := 36) (C := RX8) (T := TX8) (N := 18) (ref := "LiftFactorsModel") (v := .int (Int32.ofInt (v3.2 36 3))) hx hb hi hts inX8_u hown hw (by decide) rfl 3 (by decide) q_171 rfl rfl dX8_root_17 ?_
    replace h := bnd h
    obtain ⟨_, hg, h⟩ := h
    refine o_if_eq (tgt := 25) hx hb hg dX8_root_20 (by decide) (fun hc => ?_) (fun hc => ?_)
    · replace h := ite_t hc h
      refine lv_aload_n hx hb dX8_root_25 rfl (lv_at hl 0 rfl) ?_
      refine lv_iload_n hx hb dX8_root_26 rfl (lv_at hl 1 rfl) ?_
      refine lv_iconst (v := Int32.ofInt (0)) hx hb dX8_root_27 rfl ?_
      replace h := bnd h
      obtain ⟨v4, e4, h⟩ := h
      refine m_callVv (k := 36) (As := [.int (Int32.ofInt a0), .int (Int32.ofInt (0))]) (rest := []) cx.fix hi hw (cc_X8_load (l := l) (G := G) (sz := H.size) hi e4) (by decide) rfl rfl (w_cV 2 hts q_172 q_173 q_174 q_175 q_176 rfl rfl (by decide) (by decide)) hl.1 rfl (lv_room (Nat.le_of_ble_eq_true rfl)) dX8_root_28 (fun H locs hw => ?_)
      refine lv_aload_n hx hb dX8_root_31 rfl (lv_at hl 0 rfl) ?_
      refine lv_iconst (v := Int32.ofInt (0)) hx hb dX8_root_32 rfl ?_
      replace h := bnd h
      obtain ⟨v5, e5, h⟩ := h
      refine o_putI (k := 36) (C := RX8) (T := TX8) (N := 18) (ref := "LiftFactorsModel") hx hb hi hts inX8_u tyX8 tyX8_ok nmX8 hown hw (by decide) rfl 15 (by decide) q_219 rfl rfl e5 (by decide +kernel) rfl dX8_root_33 (fun H locs hw => ?_)
      refine lv_aload_n hx hb dX8_root_36 rfl (lv_at hl 0 rfl) ?_
      refine m_get (k := 36) (C := RX8) (T := TX8) (N := 18) (ref := "LiftFactorsModel") (v := .ref (adr 42)) hx hb hi hts inX8_u hown hw (by decide) rfl 8 (by decide) q_1 rfl rfl dX8_root_37 ?_
      refine lv_iconst (v := Int32.ofInt (0)) hx hb dX8_root_40 rfl ?_
      replace h := bnd h
      obtain ⟨v6, e6, h⟩ := h
      refine o_iald hx hb hi hw e6 dX8_root_41 ?_
      replace h := bnd h
      obtain ⟨M8, j16, h⟩ := h
      have kj : ∀ (ls : Array Slot) (H : Heap) (locs : List Loc), lv_has ls 4 [(0, .ref (adr 36)), (2, .int (Int32.ofInt a1)), (3, .int (Int32.ofInt a2))] → wH G A s.heap s (LL adr) (wf G adr (tm M8)) H locs → W p l e { frames := 4, cells := 0, slots := 0, locals := 104 } s m args below meth c H locs 0 0 Q (F0 m 49 ls []) := by
        intro ls H locs hl hw
        refine lv_aload_n hx hb dX8_root_49 rfl (lv_at hl 0 rfl) ?_
        refine lv_iload_n hx hb dX8_root_50 rfl (lv_at hl 1 rfl) ?_
        replace h := bnd h
        obtain ⟨v9, j15, h⟩ := h
        have kj : ∀ (ls : Array Slot) (H : Heap) (locs : List Loc), lv_has ls 4 [(0, .ref (adr 36)), (2, .int (Int32.ofInt a1)), (3, .int (Int32.ofInt a2))] → wH G A s.heap s (LL adr) (wf G adr (tm M8)) H locs → W p l e { frames := 4, cells := 0, slots := 0, locals := 104 } s m args below meth c H locs 0 0 Q (F0 m 76 ls [.int (Int32.ofInt v9), .ref (adr 36)]) := by
          intro ls H locs hl hw
          replace h := bnd h
          obtain ⟨v10, e10, h⟩ := h
          refine o_putI (k := 36) (C := RX8) (T := TX8) (N := 18) (ref := "LiftFactorsModel") hx hb hi hts inX8_u tyX8 tyX8_ok nmX8 hown hw (by decide) rfl 3 (by decide) q_171 rfl rfl e10 (by decide +kernel) rfl dX8_root_76 (fun H locs hw => ?_)
          refine lv_aload_n hx hb dX8_root_79 rfl (lv_at hl 0 rfl) ?_
          refine m_get (k := 36) (C := RX8) (T := TX8) (N := 18) (ref := "LiftFactorsModel") (v := .int (Int32.ofInt (v10.2 36 3))) hx hb hi hts inX8_u hown hw (by decide) rfl 3 (by decide) q_171 rfl rfl dX8_root_80 ?_
          replace h := bnd h
          obtain ⟨_, hg, h⟩ := h
          refine o_if_eq (tgt := 88) hx hb hg dX8_root_83 (by decide) (fun hc => ?_) (fun hc => ?_)
          · replace h := ite_t hc h
            refine lv_iload_n hx hb dX8_root_88 rfl (lv_at hl 2 rfl) ?_
            replace h := bnd h
            obtain ⟨v13, j14, h⟩ := h
            have kj : ∀ (ls : Array Slot) (H : Heap) (locs : List Loc), lv_has ls 4 [] → wH G A s.heap s (LL adr) (wf G adr (tm v10)) H locs → W p l e { frames := 4, cells := 0, slots := 0, locals := 104 } s m args below meth c H locs 0 0 Q (F0 m 107 ls [.int (Int32.ofInt v13)]) := by
              intro ls H locs hl hw
              cases h
              exact kr _ _ _ _ dX8_root_107 hw
            clear h
            replace h := j14
            clear j14
            replace h := bnd h
            obtain ⟨_, hg, h⟩ := h
            refine o_if_ne (tgt := 101) hx hb hg dX8_root_89 (by decide) (fun hc => ?_) (fun hc => ?_)
            · replace h := ite_f hc h
              refine lv_aload_n hx hb dX8_root_101 rfl (lv_at hl 0 rfl) ?_
              refine m_get (k := 36) (C := RX8) (T := TX8) (N := 18) (ref := "LiftFactorsModel") (v := .ref (adr 47)) hx hb hi hts inX8_u hown hw (by decide) rfl 17 (by decide) q_221 rfl rfl dX8_root_102 ?_
              refine lv_iload_n hx hb dX8_root_105 rfl (lv_at hl 1 rfl) ?_
              replace h := bnd h
              obtain ⟨v11, e11, h⟩ := h
              refine o_iald hx hb hi hw e11 dX8_root_106 ?_
              cases h
              exact kj _ _ _ (lv_sub hl [] rfl) hw
            · replace h := ite_t hc h
              refine lv_aload_n hx hb dX8_root_92 rfl (lv_at hl 0 rfl) ?_
              refine m_get (k := 36) (C := RX8) (T := TX8) (N := 18) (ref := "LiftFactorsModel") (v := .ref (adr 46)) hx hb hi hts inX8_u hown hw (by decide) rfl 16 (by decide) q_220 rfl rfl dX8_root_93 ?_
              refine lv_iload_n hx hb dX8_root_96 rfl (lv_at hl 1 rfl) ?_
              replace h := bnd h
              obtain ⟨v12, e12, h⟩ := h
              refine o_iald hx hb hi hw e12 dX8_root_97 ?_
              refine lv_goto (tgt := 107) hx hb dX8_root_98 (by decide) ?_
              cases h
              exact kj _ _ _ (lv_sub hl [] rfl) hw
          · replace h := ite_f hc h
            refine lv_iconst (v := Int32.ofInt (0)) hx hb dX8_root_86 rfl ?_
            cases h
            exact kr _ _ _ _ dX8_root_87 hw
        clear h
        replace h := j15
        clear j15
        replace h := bnd h
        obtain ⟨_, hg, h⟩ := h
        refine o_if_lt (tgt := 71) hx hb hg dX8_root_51 (by decide) (fun hc => ?_) (fun hc => ?_)
        · replace h := ite_t hc h
          refine lv_iconst (v := Int32.ofInt (2)) hx hb dX8_root_71 rfl ?_
          refine lv_goto (tgt := 76) hx hb dX8_root_72 (by decide) ?_
          cases h
          exact kj _ _ _ (lv_sub hl [0, 1, 2] rfl) hw
        · replace h := ite_f hc h
          refine lv_iload_n hx hb dX8_root_54 rfl (lv_at hl 1 rfl) ?_
          refine lv_aload_n hx hb dX8_root_55 rfl (lv_at hl 0 rfl) ?_
          refine m_get (k := 36) (C := RX8) (T := TX8) (N := 18) (ref := "LiftFactorsModel") (v := .int (Int32.ofInt (M8.2 36 15))) hx hb hi hts inX8_u hown hw (by decide) rfl 15 (by decide) q_219 rfl rfl dX8_root_56 ?_
          replace h := bnd h
          obtain ⟨_, hg, h⟩ := h
          refine o_icmp_ge (tgt := 71) hx hb hg dX8_root_59 (by decide) (fun hc => ?_) (fun hc => ?_)
          · replace h := ite_t hc h
            refine lv_iconst (v := Int32.ofInt (2)) hx hb dX8_root_71 rfl ?_
            refine lv_goto (tgt := 76) hx hb dX8_root_72 (by decide) ?_
            cases h
            exact kj _ _ _ (lv_sub hl [0, 1, 2] rfl) hw
          · replace h := ite_f hc h
            refine lv_iload_n hx hb dX8_root_62 rfl (lv_at hl 2 rfl) ?_
            replace h := bnd h
            obtain ⟨_, hg, h⟩ := h
            refine o_if_lt (tgt := 71) hx hb hg dX8_root_63 (by decide) (fun hc => ?_) (fun hc => ?_)
            · replace h := ite_t hc h
              refine lv_iconst (v := Int32.ofInt (2)) hx hb dX8_root_71 rfl ?_
              refine lv_goto (tgt := 76) hx hb dX8_root_72 (by decide) ?_
              cases h
              exact kj _ _ _ (lv_sub hl [0, 1, 2] rfl) hw
            · replace h := ite_f hc h
              refine lv_iload_n hx hb dX8_root_66 rfl (lv_at hl 2 rfl) ?_
              refine lv_iconst (v := Int32.ofInt (1)) hx hb dX8_root_67 rfl ?_
              replace h := bnd h
              obtain ⟨_, hg, h⟩ := h
              refine o_icmp_le (tgt := 75) hx hb hg dX8_root_68 (by decide) (fun hc => ?_) (fun hc => ?_)
              · replace h := ite_t hc h
                refine lv_iconst (v := Int32.ofInt (0)) hx hb dX8_root_75 rfl ?_
                cases h
                exact kj _ _ _ (lv_sub hl [0, 1, 2] rfl) hw
              · replace h := ite_f hc h
                refine lv_iconst (v := Int32.ofInt (2)) hx hb dX8_root_71 rfl ?_
                refine lv_goto (tgt := 76) hx hb dX8_root_72 (by decide) ?_
                cases h
                exact kj _ _ _ (lv_sub hl [0, 1, 2] rfl) hw
      clear h
      replace h := j16
      clear j16
      replace h := bnd h
      obtain ⟨_, hg, h⟩ := h
      refine o_if_lt (tgt := 49) hx hb hg dX8_root_42 (by decide) (fun hc => ?_) (fun hc => ?_)
      · replace h := ite_t hc h
        cases h
        exact kj _ _ _ (lv_sub hl [0, 2, 3] rfl) hw
      · replace h := ite_f hc h
        refine lv_aload_n hx hb dX8_root_45 rfl (lv_at hl 0 rfl) ?_
        replace h := bnd h
        obtain ⟨v7, e7, h⟩ := h
        refine m_callVv (k := 36) (As := []) (rest := []) cx.fix hi hw (cc_X8_findRoots (l := l) (G := G) (sz := H.size) hi e7) (by decide) rfl rfl (w_cV 0 hts q_227 q_228 q_229 q_230 q_231 rfl rfl (by decide) (by decide)) hl.1 rfl (lv_room (Nat.le_of_ble_eq_true rfl)) dX8_root_46 (fun H locs hw => ?_)
        cases h
        exact kj _ _ _ (lv_sub hl [0, 2, 3] rfl) hw
    · replace h := ite_f hc h
      refine lv_iconst (v := Int32.ofInt (0)) hx hb dX8_root_23 rfl ?_
      cases h
      exact kr _ _ _ _ dX8_root_24 hw
  clear h
  replace h := j17
  clear j17
  replace h := bnd h
  obtain ⟨_, hg, h⟩ := h
  refine o_if_eq (tgt := 12) hx hb hg dX8_root_5 (by decide) (fun hc => ?_) (fun hc => ?_)
  · replace h := ite_t hc h
    refine lv_iconst (v := Int32.ofInt (1)) hx hb dX8_root_12 rfl ?_
    cases h
    exact kj _ _ _ (lv_sub hl [0, 1, 2, 3] rfl) hw
  · replace h := ite_f hc h
    refine lv_iconst (v := Int32.ofInt (0)) hx hb dX8_root_8 rfl ?_
    refine lv_goto (tgt := 13) hx hb dX8_root_9 (by decide) ?_
    cases h
    exact kj _ _ _ (lv_sub hl [0, 1, 2, 3] rfl) hw
theorem cc_X8_root {l : Launch} {G : gG} {adr : Nat → Nat} {sz : Nat} (hi : adi adr) {n : Nat} {a0 : Int} {a1 : Int} {a2 : Int} {M M' : MI} {r : Int} (h : f_X8_root n a0 a1 a2 M = some (r, M')) : mI l yX8_root cX8_root 4 (some .int) { frames := 4, cells := 0, slots := 0, locals := 104 } G adr [.ref (adr 36), .int (Int32.ofInt a0), .int (Int32.ofInt a1), .int (Int32.ofInt a2)] (tm M) sz (Int32.ofInt r) (tm M') := by
  refine wEnter (by decide) (Nat.le_of_ble_eq_true rfl) ?_
  intro p e s m below meth c ls cx hinit hl hsz hw
  exact b_X8_root cx hi h (fun pc ls H locs hd hw => w_iret (post := fun (r9 : Int32) (u : Mem) => r9 = Int32.ofInt r ∧ u = tm M') (lf := fun u => (LL adr, wf G adr u)) cx.1 cx.2.1 cx.2.2.1 cx.2.2.2.2.2.2 (tm M') hw ⟨rfl, rfl⟩ hd) hl hw
def f_X8_roots (n : Nat) (a0 : Int) (M : MI) : Option (Int × MI) :=
  Option.bind (f_X8_isPoly a0) fun v1 =>
  Option.bind (
    Option.bind (gI v1 0) fun _ =>
    if v1 = 0 then
      some (1)
    else
      some (0)) fun v2 =>
  Option.bind (opI M 36 3 v2) fun v3 =>
  Option.bind (gI (v3.2 36 3) 0) fun _ =>
  if (v3.2 36 3) = 0 then
    Option.bind (f_X8_load n a0 (0) v3) fun v4 =>
    Option.bind (odI v4 42 (0)) fun v5 =>
    Option.bind (gI v5 0) fun _ =>
    if 0 ≤ v5 then
      Option.bind (f_X8_findRoots n v4) fun v6 =>
      some (v6.2 36 15, v6)
    else
      some ((-1), v4)
  else
    some ((0), v3)
set_option maxRecDepth 100000 in
set_option maxHeartbeats 8000000 in
theorem b_X8_roots {p : Program} {l : Launch} {e : Env} {s : State} {m : MethodId} {args : Array Value} {below : List Frame} {meth : Method} {c : Code} {Q : State → Prop} {G : gG} {A : Nat → Prop} {adr : Nat → Nat} (cx : cX p s m args meth c cX8_roots (some .int) 2 yX8_roots.cls) (hi : adi adr) {n : Nat} {a0 : Int} {M M' : MI} {r : Int} 
    (h : f_X8_roots n a0 M = some (r, M'))
    (kr : ∀ (pc : Nat) (ls : Array Slot) (H : Heap) (locs : List Loc), decode cX8_roots pc = .ok (.ireturn, 1) → wH G A s.heap s (LL adr) (wf G adr (tm M')) H locs → W p l e { frames := 4, cells := 0, slots := 0, locals := 104 } s m args below meth c H locs 0 0 Q (F0 m pc ls [.int (Int32.ofInt r)]))
    {ls : Array Slot} {H : Heap} {locs : List Loc} (hl : lv_has ls 2 [(0, .ref (adr 36)), (1, .int (Int32.ofInt a0))]) (hw : wH G A s.heap s (LL adr) (wf G adr (tm M)) H locs) : W p l e { frames := 4, cells := 0, slots := 0, locals := 104 } s m args below meth c H locs 0 0 Q (F0 m 0 ls []) := by
  obtain ⟨hx, hb, -, -, hown, hts, -⟩ := id cx
  have hown : s.vm.findClass RX8 = some m.cls := hown
  unfold f_X8_roots at h
  refine lv_aload_n hx hb dX8_roots_0 rfl (lv_at hl 0 rfl) ?_
  refine lv_iload_n hx hb dX8_roots_1 rfl (lv_at hl 1 rfl) ?_
  replace h := bnd h
  obtain ⟨v1, e1, h⟩ := h
  refine m_callSi (As := [.int (Int32.ofInt a0)]) (rest := [.ref (adr 36)]) cx.fix hw (cc_X8_isPoly (l := l) (G := G) (sz := H.size) (M := M) hi e1) (w_cS 1 hts q_167 q_168 q_169 q_170 rfl rfl (by decide) (by decide)) hl.1 rfl (lv_room (Nat.le_of_ble_eq_true rfl)) dX8_roots_2 (fun H locs hw => ?_)
  replace h := bnd h
  obtain ⟨v2, j7, h⟩ := h
  have kj : ∀ (ls : Array Slot) (H : Heap) (locs : List Loc), lv_has ls 2 [(0, .ref (adr 36)), (1, .int (Int32.ofInt a0))] → wH G A s.heap s (LL adr) (wf G adr (tm M)) H locs → W p l e { frames := 4, cells := 0, slots := 0, locals := 104 } s m args below meth c H locs 0 0 Q (F0 m 13 ls [.int (Int32.ofInt v2), .ref (adr 36)]) := by
    intro ls H locs hl hw
    replace h := bnd h
    obtain ⟨v3, e3, h⟩ := h
    refine o_putI (k := 36) (C := RX8) (T := TX8) (N := 18) (ref := "LiftFactorsModel") hx hb hi hts inX8_u tyX8 tyX8_ok nmX8 hown hw (by decide) rfl 3 (by decide) q_171 rfl rfl e3 (by decide +kernel) rfl dX8_roots_13 (fun H locs hw => ?_)
    refine lv_aload_n hx hb dX8_roots_16 rfl (lv_at hl 0 rfl) ?_
    refine m_get (k := 36) (C := RX8) (T := TX8) (N := 18) (ref := "LiftFactorsModel") (v := .int (Int32.ofInt (v3.2 36 3))) hx hb hi hts inX8_u hown hw (by decide) rfl 3 (by decide) q_171 rfl rfl dX8_roots_17 ?_
    replace h := bnd h
    obtain ⟨_, hg, h⟩ := h
    refine o_if_eq (tgt := 25) hx hb hg dX8_roots_20 (by decide) (fun hc => ?_) (fun hc => ?_)
    · replace h := ite_t hc h
      refine lv_aload_n hx hb dX8_roots_25 rfl (lv_at hl 0 rfl) ?_
      refine lv_iload_n hx hb dX8_roots_26 rfl (lv_at hl 1 rfl) ?_
      refine lv_iconst (v := Int32.ofInt (0)) hx hb dX8_roots_27 rfl ?_
      replace h := bnd h
      obtain ⟨v4, e4, h⟩ := h
      refine m_callVv (k := 36) (As := [.int (Int32.ofInt a0), .int (Int32.ofInt (0))]) (rest := []) cx.fix hi hw (cc_X8_load (l := l) (G := G) (sz := H.size) hi e4) (by decide) rfl rfl (w_cV 2 hts q_172 q_173 q_174 q_175 q_176 rfl rfl (by decide) (by decide)) hl.1 rfl (lv_room (Nat.le_of_ble_eq_true rfl)) dX8_roots_28 (fun H locs hw => ?_)
      refine lv_aload_n hx hb dX8_roots_31 rfl (lv_at hl 0 rfl) ?_
      refine m_get (k := 36) (C := RX8) (T := TX8) (N := 18) (ref := "LiftFactorsModel") (v := .ref (adr 42)) hx hb hi hts inX8_u hown hw (by decide) rfl 8 (by decide) q_1 rfl rfl dX8_roots_32 ?_
      refine lv_iconst (v := Int32.ofInt (0)) hx hb dX8_roots_35 rfl ?_
      replace h := bnd h
      obtain ⟨v5, e5, h⟩ := h
      refine o_iald hx hb hi hw e5 dX8_roots_36 ?_
      replace h := bnd h
      obtain ⟨_, hg, h⟩ := h
      refine o_if_ge (tgt := 42) hx hb hg dX8_roots_37 (by decide) (fun hc => ?_) (fun hc => ?_)
      · replace h := ite_t hc h
        refine lv_aload_n hx hb dX8_roots_42 rfl (lv_at hl 0 rfl) ?_
        replace h := bnd h
        obtain ⟨v6, e6, h⟩ := h
        refine m_callVv (k := 36) (As := []) (rest := []) cx.fix hi hw (cc_X8_findRoots (l := l) (G := G) (sz := H.size) hi e6) (by decide) rfl rfl (w_cV 0 hts q_227 q_228 q_229 q_230 q_231 rfl rfl (by decide) (by decide)) hl.1 rfl (lv_room (Nat.le_of_ble_eq_true rfl)) dX8_roots_43 (fun H locs hw => ?_)
        refine lv_aload_n hx hb dX8_roots_46 rfl (lv_at hl 0 rfl) ?_
        refine m_get (k := 36) (C := RX8) (T := TX8) (N := 18) (ref := "LiftFactorsModel") (v := .int (Int32.ofInt (v6.2 36 15))) hx hb hi hts inX8_u hown hw (by decide) rfl 15 (by decide) q_219 rfl rfl dX8_roots_47 ?_
        cases h
        exact kr _ _ _ _ dX8_roots_50 hw
      · replace h := ite_f hc h
        refine lv_iconst (v := Int32.ofInt (-1)) hx hb dX8_roots_40 rfl ?_
        cases h
        exact kr _ _ _ _ dX8_roots_41 hw
    · replace h := ite_f hc h
      refine lv_iconst (v := Int32.ofInt (0)) hx hb dX8_roots_23 rfl ?_
      cases h
      exact kr _ _ _ _ dX8_roots_24 hw
  clear h
  replace h := j7
  clear j7
  replace h := bnd h
  obtain ⟨_, hg, h⟩ := h
  refine o_if_eq (tgt := 12) hx hb hg dX8_roots_5 (by decide) (fun hc => ?_) (fun hc => ?_)
  · replace h := ite_t hc h
    refine lv_iconst (v := Int32.ofInt (1)) hx hb dX8_roots_12 rfl ?_
    cases h
    exact kj _ _ _ (lv_sub hl [0, 1] rfl) hw
  · replace h := ite_f hc h
    refine lv_iconst (v := Int32.ofInt (0)) hx hb dX8_roots_8 rfl ?_
    refine lv_goto (tgt := 13) hx hb dX8_roots_9 (by decide) ?_
    cases h
    exact kj _ _ _ (lv_sub hl [0, 1] rfl) hw
theorem cc_X8_roots {l : Launch} {G : gG} {adr : Nat → Nat} {sz : Nat} (hi : adi adr) {n : Nat} {a0 : Int} {M M' : MI} {r : Int} (h : f_X8_roots n a0 M = some (r, M')) : mI l yX8_roots cX8_roots 2 (some .int) { frames := 4, cells := 0, slots := 0, locals := 104 } G adr [.ref (adr 36), .int (Int32.ofInt a0)] (tm M) sz (Int32.ofInt r) (tm M') := by
  refine wEnter (by decide) (Nat.le_of_ble_eq_true rfl) ?_
  intro p e s m below meth c ls cx hinit hl hsz hw
  exact b_X8_roots cx hi h (fun pc ls H locs hd hw => w_iret (post := fun (r9 : Int32) (u : Mem) => r9 = Int32.ofInt r ∧ u = tm M') (lf := fun u => (LL adr, wf G adr u)) cx.1 cx.2.1 cx.2.2.1 cx.2.2.2.2.2.2 (tm M') hw ⟨rfl, rfl⟩ hd) hl hw
def l_X8_isPrime_15 (a0 : Int) : Int → Option (((Int) ⊕ (Unit)) ⊕ (Int)) := fun v1 =>
  Option.bind (gI (v1 * v1) a0) fun _ =>
  if a0 < (v1 * v1) then
    some (.inl (.inr ()))
  else
    Option.bind (orI a0 v1) fun v2 =>
    Option.bind (gI v2 0) fun _ =>
    if v2 = 0 then
      some (.inl (.inl (0)))
    else
      some (.inr (v1 + 1))
def f_X8_isPrime (n : Nat) (a0 : Int) : Option Int :=
  Option.bind (gI a0 (2)) fun _ =>
  if a0 < (2) then
    some (0)
  else
    Option.bind (gI a0 (97)) fun _ =>
    if a0 ≤ (97) then
      Option.bind (lpF (l_X8_isPrime_15 a0) n (2)) fun r => match r with
      | .inl o => some o
      | .inr () =>
        some (1)
    else
      some (0)
set_option maxRecDepth 100000 in
set_option maxHeartbeats 8000000 in
theorem b_X8_isPrime {p : Program} {l : Launch} {e : Env} {s : State} {m : MethodId} {args : Array Value} {below : List Frame} {meth : Method} {c : Code} {Q : State → Prop} {G : gG} {A : Nat → Prop} {adr : Nat → Nat} (cx : cX p s m args meth c cX8_isPrime (some .boolean) 2 yX8_isPrime.cls) (hi : adi adr) {n : Nat} {a0 : Int} {M : MI} {r : Int} 
    (h : f_X8_isPrime n a0 = some r)
    (kr : ∀ (pc : Nat) (ls : Array Slot) (H : Heap) (locs : List Loc), decode cX8_isPrime pc = .ok (.ireturn, 1) → narrow .boolean (.int (Int32.ofInt r)) = .int (Int32.ofInt r) → wH G A s.heap s (LL adr) (wf G adr (tm M)) H locs → W p l e { frames := 0, cells := 0, slots := 0, locals := 0 } s m args below meth c H locs 0 0 Q (F0 m pc ls [.int (Int32.ofInt r)]))
    {ls : Array Slot} {H : Heap} {locs : List Loc} (hl : lv_has ls 2 [(0, .int (Int32.ofInt a0))]) (hw : wH G A s.heap s (LL adr) (wf G adr (tm M)) H locs) : W p l e { frames := 0, cells := 0, slots := 0, locals := 0 } s m args below meth c H locs 0 0 Q (F0 m 0 ls []) := by
  obtain ⟨hx, hb, -, -, hown, hts, -⟩ := id cx
  have hown : s.vm.findClass RX8 = some m.cls := hown
  unfold f_X8_isPrime at h
  refine lv_iload_n hx hb dX8_isPrime_0 rfl (lv_at hl 0 rfl) ?_
  refine lv_iconst (v := Int32.ofInt (2)) hx hb dX8_isPrime_1 rfl ?_
  replace h := bnd h
  obtain ⟨_, hg, h⟩ := h
  refine o_icmp_lt (tgt := 11) hx hb hg dX8_isPrime_2 (by decide) (fun hc => ?_) (fun hc => ?_)
  · replace h := ite_t hc h
    refine lv_iconst (v := Int32.ofInt (0)) hx hb dX8_isPrime_11 rfl ?_
    cases h
    exact kr _ _ _ _ dX8_isPrime_12 nb0 hw
  · replace h := ite_f hc h
    refine lv_iload_n hx hb dX8_isPrime_5 rfl (lv_at hl 0 rfl) ?_
    refine lv_bipush (v := Int32.ofInt (97)) hx hb dX8_isPrime_6 rfl ?_
    replace h := bnd h
    obtain ⟨_, hg, h⟩ := h
    refine o_icmp_le (tgt := 13) hx hb hg dX8_isPrime_8 (by decide) (fun hc => ?_) (fun hc => ?_)
    · replace h := ite_t hc h
      refine lv_iconst (v := Int32.ofInt (2)) hx hb dX8_isPrime_13 rfl ?_
      refine lv_istore_n (lv' := [(1, .int (Int32.ofInt (2))), (0, .int (Int32.ofInt a0))]) hx hb dX8_isPrime_14 rfl hl (by decide) rfl (fun ls hl => ?_)
      replace h := bnd h
      obtain ⟨o4, j3, h⟩ := h
      refine lp_W (Wst := fun (st : Int) => ∀ (ls : Array Slot) (H : Heap) (locs : List Loc), lv_has ls 2 [(0, .int (Int32.ofInt a0)), (1, .int (Int32.ofInt st))] → wH G A s.heap s (LL adr) (wf G adr (tm M)) H locs → W p l e { frames := 0, cells := 0, slots := 0, locals := 0 } s m args below meth c H locs 0 0 Q (F0 m 15 ls [])) (fin := fun (r : (Int) ⊕ (Unit)) => match r with
      | .inl o => ∀ (pc : Nat) (ls : Array Slot) (H : Heap) (locs : List Loc), decode cX8_isPrime pc = .ok (.ireturn, 1) → narrow .boolean (.int (Int32.ofInt o)) = .int (Int32.ofInt o) → wH G A s.heap s (LL adr) (wf G adr (tm M)) H locs → W p l e { frames := 0, cells := 0, slots := 0, locals := 0 } s m args below meth c H locs 0 0 Q (F0 m pc ls [.int (Int32.ofInt o)])
      | .inr q => ∀ (ls : Array Slot) (H : Heap) (locs : List Loc), lv_has ls 2 [] → wH G A s.heap s (LL adr) (wf G adr (tm M)) H locs → W p l e { frames := 0, cells := 0, slots := 0, locals := 0 } s m args below meth c H locs 0 0 Q (F0 m 36 ls [])) ?_ n _ _ j3 ?_ _ _ _ (lv_sub hl [1, 0] rfl) hw
      · clear h j3 hw hl
        intro v1 x h k1 k2 ls H locs hl hw
        (try dsimp only at k2 hl hw ⊢)
        unfold l_X8_isPrime_15 at h
        (try dsimp only at h)
        refine lv_iload_n hx hb dX8_isPrime_15 rfl (lv_at hl 1 rfl) ?_
        refine lv_iload_n hx hb dX8_isPrime_16 rfl (lv_at hl 1 rfl) ?_
        refine o_imul hx hb dX8_isPrime_17 ?_
        refine lv_iload_n hx hb dX8_isPrime_18 rfl (lv_at hl 0 rfl) ?_
        replace h := bnd h
        obtain ⟨_, hg, h⟩ := h
        refine o_icmp_gt (tgt := 36) hx hb hg dX8_isPrime_19 (by decide) (fun hc => ?_) (fun hc => ?_)
        · replace h := ite_t hc h
          cases h
          exact k1 _ rfl _ _ _ (lv_sub hl [] rfl) hw
        · replace h := ite_f hc h
          refine lv_iload_n hx hb dX8_isPrime_22 rfl (lv_at hl 0 rfl) ?_
          refine lv_iload_n hx hb dX8_isPrime_23 rfl (lv_at hl 1 rfl) ?_
          replace h := bnd h
          obtain ⟨v2, e2, h⟩ := h
          refine o_irem hx hb e2 dX8_isPrime_24 ?_
          replace h := bnd h
          obtain ⟨_, hg, h⟩ := h
          refine o_if_ne (tgt := 30) hx hb hg dX8_isPrime_25 (by decide) (fun hc => ?_) (fun hc => ?_)
          · replace h := ite_f hc h
            refine lv_iinc (v := Int32.ofInt (v1 + 1)) (lv' := [(1, .int (Int32.ofInt (v1 + 1))), (0, .int (Int32.ofInt a0))]) hx hb dX8_isPrime_30 hl (k := 1) rfl (inc_o _ _) (by decide) rfl (fun ls hl => ?_)
            refine lv_goto (tgt := 15) hx hb dX8_isPrime_33 (by decide) ?_
            cases h
            exact k2 _ rfl _ _ _ (lv_sub hl [1, 0] rfl) hw
          · replace h := ite_t hc h
            refine lv_iconst (v := Int32.ofInt (0)) hx hb dX8_isPrime_28 rfl ?_
            cases h
            exact k1 _ rfl _ _ _ _ dX8_isPrime_29 nb0 hw
      · clear hw hl j3
        rcases o4 with o9 | _
        · cases h
          exact kr
        · intro ls H locs hl hw
          (try dsimp only at h hl hw ⊢)
          refine lv_iconst (v := Int32.ofInt (1)) hx hb dX8_isPrime_36 rfl ?_
          cases h
          exact kr _ _ _ _ dX8_isPrime_37 nb1 hw
    · replace h := ite_f hc h
      refine lv_iconst (v := Int32.ofInt (0)) hx hb dX8_isPrime_11 rfl ?_
      cases h
      exact kr _ _ _ _ dX8_isPrime_12 nb0 hw
theorem cc_X8_isPrime {l : Launch} {G : gG} {adr : Nat → Nat} {sz : Nat} (hi : adi adr) {n : Nat} {a0 : Int} {M : MI} {r : Int} (h : f_X8_isPrime n a0 = some r) : mI l yX8_isPrime cX8_isPrime 2 (some .boolean) { frames := 0, cells := 0, slots := 0, locals := 0 } G adr [.int (Int32.ofInt a0)] (tm M) sz (Int32.ofInt r) (tm M) := by
  refine wEnter (by decide) (Nat.le_of_ble_eq_true rfl) ?_
  intro p e s m below meth c ls cx hinit hl hsz hw
  exact b_X8_isPrime cx hi h (fun pc ls H locs hd hz hw => w_zret (post := fun (r9 : Int32) (u : Mem) => r9 = Int32.ofInt r ∧ u = tm M) (lf := fun u => (LL adr, wf G adr u)) cx.1 cx.2.1 cx.2.2.1 cx.2.2.2.2.2.2 hz (tm M) hw ⟨rfl, rfl⟩ hd) hl hw
theorem q_232 : Cond.methodLink RX8 223 yX8_isPrime ∈ uU := uU_in (by decide +kernel) (by decide +kernel)
theorem q_233 : Cond.static yX8_isPrime ∈ uU := uU_in (by decide +kernel) (by decide +kernel)
theorem q_234 : Cond.initialized yX8_isPrime.cls ∈ uU := uU_in (by decide +kernel) (by decide +kernel)
theorem q_235 : Cond.code yX8_isPrime cX8_isPrime 2 (some .boolean) ∈ uU := uU_in (by decide +kernel) (by decide +kernel)
theorem q_236 : Cond.fieldLink RX8 36 "LiftFactorsModel" "perDegree" "[I" ∈ uU := uU_in (by decide +kernel) (by decide +kernel)
def l_X8_parts_174 (v16 : Int) (v23 : MI) : Int × Int → Option ((Int) ⊕ (Int × Int)) := fun (v25, v26) =>
  Option.bind (gI v26 v16) fun _ =>
  if v16 ≤ v26 then
    some (.inl v25)
  else
    Option.bind (orI v16 v26) fun v27 =>
    Option.bind (
      Option.bind (gI v27 0) fun _ =>
      if v27 = 0 then
        Option.bind (odI v23 45 v26) fun v28 =>
        some (v25 - (v26 * v28))
      else
        some v25) fun v29 =>
    some (.inr (v29, v26 + 1))
def l_X8_parts_106 (n : Nat) (a1 : Int) (v6 : Int) : MI × Int × Int → Option ((MI × Int) ⊕ (MI × Int × Int)) := fun (M14, v15, v16) =>
  Option.bind (gI v16 v6) fun _ =>
  if v6 < v16 then
    some (.inl (M14, v15))
  else
    Option.bind (f_X8_copy n (10) (16) M14) fun v17 =>
    Option.bind (gI a1 0) fun v18 =>
    Option.bind (f_X8_raise n (16) a1 (0) (10) v17) fun v19 =>
    Option.bind (f_X8_copy n (10) (11) v19) fun v20 =>
    Option.bind (f_X8_lessLetter n (11) v20) fun v21 =>
    Option.bind (f_X8_copy n (0) (17) v21) fun v22 =>
    Option.bind (f_X8_commonRow n (17) (11) (18) v22) fun v23 =>
    Option.bind (odI v23 42 (18)) fun v24 =>
    Option.bind (lpF (l_X8_parts_174 v16 v23) n (v24, (1))) fun v32 =>
    Option.bind (oqI v32 v16) fun v33 =>
    Option.bind (osI v23 45 v16 v33) fun v34 =>
    Option.bind (oqI v32 v16) fun v35 =>
    some (.inr (v34, v15 + v35, v16 + 1))
def f_X8_parts (n : Nat) (a0 : Int) (a1 : Int) (M : MI) : Option (Int × MI) :=
  Option.bind (f_X8_isPoly a0) fun v1 =>
  Option.bind (
    Option.bind (gI v1 0) fun _ =>
    if v1 = 0 then
      some (1)
    else
      Option.bind (f_X8_isPrime n a1) fun v2 =>
      Option.bind (gI v2 0) fun _ =>
      if v2 = 0 then
        some (2)
      else
        some (0)) fun v3 =>
  Option.bind (opI M 36 3 v3) fun v4 =>
  Option.bind (gI (v4.2 36 3) 0) fun _ =>
  if (v4.2 36 3) = 0 then
    Option.bind (f_X8_load n a0 (0) v4) fun v5 =>
    Option.bind (odI v5 42 (0)) fun v6 =>
    Option.bind (gI a1 0) fun v7 =>
    Option.bind (opJ v5 36 9 a1) fun v8 =>
    Option.bind (f_X8_reduce n (0) v8) fun v9 =>
    Option.bind (gI v6 0) fun _ =>
    if v6 < 0 then
      some ((-1), v9)
    else
      Option.bind (odI v9 42 (0)) fun v10 =>
      Option.bind (gI v10 v6) fun _ =>
      if v6 ≤ v10 then
        Option.bind (gI v6 0) fun _ =>
        if v6 = 0 then
          some ((0), v9)
        else
          Option.bind (f_X8_monic n (0) v9) fun v11 =>
          Option.bind (f_X8_letter (10) v11) fun v12 =>
          Option.bind (f_X8_rest n (10) (0) v12) fun v13 =>
          Option.bind (lpF (l_X8_parts_106 n a1 v6) n (v13, (0), (1))) fun (M37, v38) =>
          some (v38, M37)
      else
        some ((-1), v9)
  else
    some ((0), v4)
set_option maxRecDepth 100000 in
set_option maxHeartbeats 8000000 in
theorem b_X8_parts {p : Program} {l : Launch} {e : Env} {s : State} {m : MethodId} {args : Array Value} {below : List Frame} {meth : Method} {c : Code} {Q : State → Prop} {G : gG} {A : Nat → Prop} {adr : Nat → Nat} (cx : cX p s m args meth c cX8_parts (some .int) 8 yX8_parts.cls) (hi : adi adr) {n : Nat} {a0 : Int} {a1 : Int} {M M' : MI} {r : Int} 
    (h : f_X8_parts n a0 a1 M = some (r, M'))
    (kr : ∀ (pc : Nat) (ls : Array Slot) (H : Heap) (locs : List Loc), decode cX8_parts pc = .ok (.ireturn, 1) → wH G A s.heap s (LL adr) (wf G adr (tm M')) H locs → W p l e { frames := 4, cells := 0, slots := 0, locals := 111 } s m args below meth c H locs 0 0 Q (F0 m pc ls [.int (Int32.ofInt r)]))
    {ls : Array Slot} {H : Heap} {locs : List Loc} (hl : lv_has ls 8 [(0, .ref (adr 36)), (1, .int (Int32.ofInt a0)), (2, .int (Int32.ofInt a1))]) (hw : wH G A s.heap s (LL adr) (wf G adr (tm M)) H locs) : W p l e { frames := 4, cells := 0, slots := 0, locals := 111 } s m args below meth c H locs 0 0 Q (F0 m 0 ls []) := by
  obtain ⟨hx, hb, -, -, hown, hts, -⟩ := id cx
  have hown : s.vm.findClass RX8 = some m.cls := hown
  unfold f_X8_parts at h
  refine lv_aload_n hx hb dX8_parts_0 rfl (lv_at hl 0 rfl) ?_
  refine lv_iload_n hx hb dX8_parts_1 rfl (lv_at hl 1 rfl) ?_
  replace h := bnd h
  obtain ⟨v1, e1, h⟩ := h
  refine m_callSi (As := [.int (Int32.ofInt a0)]) (rest := [.ref (adr 36)]) cx.fix hw (cc_X8_isPoly (l := l) (G := G) (sz := H.size) (M := M) hi e1) (w_cS 1 hts q_167 q_168 q_169 q_170 rfl rfl (by decide) (by decide)) hl.1 rfl (lv_room (Nat.le_of_ble_eq_true rfl)) dX8_parts_2 (fun H locs hw => ?_)
  replace h := bnd h
  obtain ⟨v3, j39, h⟩ := h
  have kj : ∀ (ls : Array Slot) (H : Heap) (locs : List Loc), lv_has ls 8 [(0, .ref (adr 36)), (1, .int (Int32.ofInt a0)), (2, .int (Int32.ofInt a1))] → wH G A s.heap s (LL adr) (wf G adr (tm M)) H locs → W p l e { frames := 4, cells := 0, slots := 0, locals := 111 } s m args below meth c H locs 0 0 Q (F0 m 24 ls [.int (Int32.ofInt v3), .ref (adr 36)]) := by
    intro ls H locs hl hw
    replace h := bnd h
    obtain ⟨v4, e4, h⟩ := h
    refine o_putI (k := 36) (C := RX8) (T := TX8) (N := 18) (ref := "LiftFactorsModel") hx hb hi hts inX8_u tyX8 tyX8_ok nmX8 hown hw (by decide) rfl 3 (by decide) q_171 rfl rfl e4 (by decide +kernel) rfl dX8_parts_24 (fun H locs hw => ?_)
    refine lv_aload_n hx hb dX8_parts_27 rfl (lv_at hl 0 rfl) ?_
    refine m_get (k := 36) (C := RX8) (T := TX8) (N := 18) (ref := "LiftFactorsModel") (v := .int (Int32.ofInt (v4.2 36 3))) hx hb hi hts inX8_u hown hw (by decide) rfl 3 (by decide) q_171 rfl rfl dX8_parts_28 ?_
    replace h := bnd h
    obtain ⟨_, hg, h⟩ := h
    refine o_if_eq (tgt := 36) hx hb hg dX8_parts_31 (by decide) (fun hc => ?_) (fun hc => ?_)
    · replace h := ite_t hc h
      refine lv_aload_n hx hb dX8_parts_36 rfl (lv_at hl 0 rfl) ?_
      refine lv_iload_n hx hb dX8_parts_37 rfl (lv_at hl 1 rfl) ?_
      refine lv_iconst (v := Int32.ofInt (0)) hx hb dX8_parts_38 rfl ?_
      replace h := bnd h
      obtain ⟨v5, e5, h⟩ := h
      refine m_callVv (k := 36) (As := [.int (Int32.ofInt a0), .int (Int32.ofInt (0))]) (rest := []) cx.fix hi hw (cc_X8_load (l := l) (G := G) (sz := H.size) hi e5) (by decide) rfl rfl (w_cV 2 hts q_172 q_173 q_174 q_175 q_176 rfl rfl (by decide) (by decide)) hl.1 rfl (lv_room (Nat.le_of_ble_eq_true rfl)) dX8_parts_39 (fun H locs hw => ?_)
      refine lv_aload_n hx hb dX8_parts_42 rfl (lv_at hl 0 rfl) ?_
      refine m_get (k := 36) (C := RX8) (T := TX8) (N := 18) (ref := "LiftFactorsModel") (v := .ref (adr 42)) hx hb hi hts inX8_u hown hw (by decide) rfl 8 (by decide) q_1 rfl rfl dX8_parts_43 ?_
      refine lv_iconst (v := Int32.ofInt (0)) hx hb dX8_parts_46 rfl ?_
      replace h := bnd h
      obtain ⟨v6, e6, h⟩ := h
      refine o_iald hx hb hi hw e6 dX8_parts_47 ?_
      refine lv_istore_n (lv' := [(3, .int (Int32.ofInt v6)), (0, .ref (adr 36)), (1, .int (Int32.ofInt a0)), (2, .int (Int32.ofInt a1))]) hx hb dX8_parts_48 rfl hl (by decide) rfl (fun ls hl => ?_)
      refine lv_aload_n hx hb dX8_parts_49 rfl (lv_at hl 1 rfl) ?_
      refine lv_iload_n hx hb dX8_parts_50 rfl (lv_at hl 3 rfl) ?_
      replace h := bnd h
      obtain ⟨v7, e7, h⟩ := h
      refine o_i2l hx hb e7 dX8_parts_51 ?_
      replace h := bnd h
      obtain ⟨v8, e8, h⟩ := h
      refine o_putJ (k := 36) (C := RX8) (T := TX8) (N := 18) (ref := "LiftFactorsModel") hx hb hi hts inX8_u tyX8 tyX8_ok nmX8 hown hw (by decide) rfl 9 (by decide) q_29 rfl rfl e8 (by decide +kernel) rfl dX8_parts_52 (fun H locs hw => ?_)
      refine lv_aload_n hx hb dX8_parts_55 rfl (lv_at hl 1 rfl) ?_
      refine lv_iconst (v := Int32.ofInt (0)) hx hb dX8_parts_56 rfl ?_
      replace h := bnd h
      obtain ⟨v9, e9, h⟩ := h
      refine m_callVv (k := 36) (As := [.int (Int32.ofInt (0))]) (rest := []) cx.fix hi hw (cc_X8_reduce (l := l) (G := G) (sz := H.size) hi e9) (by decide) rfl rfl (w_cV 1 hts q_74 q_75 q_76 q_77 q_78 rfl rfl (by decide) (by decide)) hl.1 rfl (lv_room (Nat.le_of_ble_eq_true rfl)) dX8_parts_57 (fun H locs hw => ?_)
      refine lv_iload_n hx hb dX8_parts_60 rfl (lv_at hl 0 rfl) ?_
      replace h := bnd h
      obtain ⟨_, hg, h⟩ := h
      refine o_if_lt (tgt := 74) hx hb hg dX8_parts_61 (by decide) (fun hc => ?_) (fun hc => ?_)
      · replace h := ite_t hc h
        refine lv_iconst (v := Int32.ofInt (-1)) hx hb dX8_parts_74 rfl ?_
        cases h
        exact kr _ _ _ _ dX8_parts_75 hw
      · replace h := ite_f hc h
        refine lv_aload_n hx hb dX8_parts_64 rfl (lv_at hl 1 rfl) ?_
        refine m_get (k := 36) (C := RX8) (T := TX8) (N := 18) (ref := "LiftFactorsModel") (v := .ref (adr 42)) hx hb hi hts inX8_u hown hw (by decide) rfl 8 (by decide) q_1 rfl rfl dX8_parts_65 ?_
        refine lv_iconst (v := Int32.ofInt (0)) hx hb dX8_parts_68 rfl ?_
        replace h := bnd h
        obtain ⟨v10, e10, h⟩ := h
        refine o_iald hx hb hi hw e10 dX8_parts_69 ?_
        refine lv_iload_n hx hb dX8_parts_70 rfl (lv_at hl 0 rfl) ?_
        replace h := bnd h
        obtain ⟨_, hg, h⟩ := h
        refine o_icmp_ge (tgt := 76) hx hb hg dX8_parts_71 (by decide) (fun hc => ?_) (fun hc => ?_)
        · replace h := ite_t hc h
          refine lv_iload_n hx hb dX8_parts_76 rfl (lv_at hl 0 rfl) ?_
          replace h := bnd h
          obtain ⟨_, hg, h⟩ := h
          refine o_if_ne (tgt := 82) hx hb hg dX8_parts_77 (by decide) (fun hc => ?_) (fun hc => ?_)
          · replace h := ite_f hc h
            refine lv_aload_n hx hb dX8_parts_82 rfl (lv_at hl 1 rfl) ?_
            refine lv_iconst (v := Int32.ofInt (0)) hx hb dX8_parts_83 rfl ?_
            replace h := bnd h
            obtain ⟨v11, e11, h⟩ := h
            refine m_callVv (k := 36) (As := [.int (Int32.ofInt (0))]) (rest := []) cx.fix hi hw (cc_X8_monic (l := l) (G := G) (sz := H.size) hi e11) (by decide) rfl rfl (w_cV 1 hts q_57 q_58 q_59 q_60 q_61 rfl rfl (by decide) (by decide)) hl.1 rfl (lv_room (Nat.le_of_ble_eq_true rfl)) dX8_parts_84 (fun H locs hw => ?_)
            refine lv_aload_n hx hb dX8_parts_87 rfl (lv_at hl 1 rfl) ?_
            refine lv_bipush (v := Int32.ofInt (10)) hx hb dX8_parts_88 rfl ?_
            replace h := bnd h
            obtain ⟨v12, e12, h⟩ := h
            refine m_callVv (k := 36) (As := [.int (Int32.ofInt (10))]) (rest := []) cx.fix hi hw (cc_X8_letter (l := l) (G := G) (sz := H.size) hi e12) (by decide) rfl rfl (w_cV 1 hts q_96 q_97 q_98 q_99 q_100 rfl rfl (by decide) (by decide)) hl.1 rfl (lv_room (Nat.le_of_ble_eq_true rfl)) dX8_parts_90 (fun H locs hw => ?_)
            refine lv_aload_n hx hb dX8_parts_93 rfl (lv_at hl 1 rfl) ?_
            refine lv_bipush (v := Int32.ofInt (10)) hx hb dX8_parts_94 rfl ?_
            refine lv_iconst (v := Int32.ofInt (0)) hx hb dX8_parts_96 rfl ?_
            replace h := bnd h
            obtain ⟨v13, e13, h⟩ := h
            refine m_callVv (k := 36) (As := [.int (Int32.ofInt (10)), .int (Int32.ofInt (0))]) (rest := []) cx.fix hi hw (cc_X8_rest (l := l) (G := G) (sz := H.size) hi e13) (by decide) rfl rfl (w_cV 2 hts q_42 q_43 q_44 q_45 q_46 rfl rfl (by decide) (by decide)) hl.1 rfl (lv_room (Nat.le_of_ble_eq_true rfl)) dX8_parts_97 (fun H locs hw => ?_)
            refine lv_iconst (v := Int32.ofInt (0)) hx hb dX8_parts_100 rfl ?_
            refine lv_istore (lv' := [(4, .int (Int32.ofInt (0))), (3, .int (Int32.ofInt v6)), (0, .ref (adr 36)), (1, .int (Int32.ofInt a0)), (2, .int (Int32.ofInt a1))]) hx hb dX8_parts_101 hl (by decide) rfl (fun ls hl => ?_)
            refine lv_iconst (v := Int32.ofInt (1)) hx hb dX8_parts_103 rfl ?_
            refine lv_istore (lv' := [(5, .int (Int32.ofInt (1))), (4, .int (Int32.ofInt (0))), (3, .int (Int32.ofInt v6)), (0, .ref (adr 36)), (1, .int (Int32.ofInt a0)), (2, .int (Int32.ofInt a1))]) hx hb dX8_parts_104 hl (by decide) rfl (fun ls hl => ?_)
            replace h := bnd h
            obtain ⟨⟨M37, v38⟩, j36, h⟩ := h
            refine lp_W (Wst := fun (st : MI × Int × Int) => ∀ (ls : Array Slot) (H : Heap) (locs : List Loc), lv_has ls 8 [(0, .ref (adr 36)), (2, .int (Int32.ofInt a1)), (3, .int (Int32.ofInt v6)), (4, .int (Int32.ofInt st.2.1)), (5, .int (Int32.ofInt st.2.2))] → wH G A s.heap s (LL adr) (wf G adr (tm st.1)) H locs → W p l e { frames := 4, cells := 0, slots := 0, locals := 111 } s m args below meth c H locs 0 0 Q (F0 m 106 ls [])) (fin := fun (r : MI × Int) => ∀ (ls : Array Slot) (H : Heap) (locs : List Loc), lv_has ls 8 [(4, .int (Int32.ofInt r.2))] → wH G A s.heap s (LL adr) (wf G adr (tm r.1)) H locs → W p l e { frames := 4, cells := 0, slots := 0, locals := 111 } s m args below meth c H locs 0 0 Q (F0 m 238 ls [])) ?_ n _ _ j36 ?_ _ _ _ (lv_sub hl [3, 5, 2, 1, 0] rfl) hw
            · clear h j36 hw hl
              intro ⟨M14, v15, v16⟩ x h k1 k2 ls H locs hl hw
              (try dsimp only at k1 k2 hl hw ⊢)
              unfold l_X8_parts_106 at h
              (try dsimp only at h)
              refine lv_iload hx hb dX8_parts_106 (lv_at hl 4 rfl) ?_
              refine lv_iload_n hx hb dX8_parts_108 rfl (lv_at hl 2 rfl) ?_
              replace h := bnd h
              obtain ⟨_, hg, h⟩ := h
              refine o_icmp_gt (tgt := 238) hx hb hg dX8_parts_109 (by decide) (fun hc => ?_) (fun hc => ?_)
              · replace h := ite_t hc h
                cases h
                exact k1 _ rfl _ _ _ (lv_sub hl [3] rfl) hw
              · replace h := ite_f hc h
                refine lv_aload_n hx hb dX8_parts_112 rfl (lv_at hl 0 rfl) ?_
                refine lv_bipush (v := Int32.ofInt (10)) hx hb dX8_parts_113 rfl ?_
                refine lv_bipush (v := Int32.ofInt (16)) hx hb dX8_parts_115 rfl ?_
                replace h := bnd h
                obtain ⟨v17, e17, h⟩ := h
                refine m_callVv (k := 36) (As := [.int (Int32.ofInt (10)), .int (Int32.ofInt (16))]) (rest := []) cx.fix hi hw (cc_X8_copy (l := l) (G := G) (sz := H.size) hi e17) (by decide) rfl rfl (w_cV 2 hts q_24 q_25 q_26 q_27 q_28 rfl rfl (by decide) (by decide)) hl.1 rfl (lv_room (Nat.le_of_ble_eq_true rfl)) dX8_parts_117 (fun H locs hw => ?_)
                refine lv_aload_n hx hb dX8_parts_120 rfl (lv_at hl 0 rfl) ?_
                refine lv_bipush (v := Int32.ofInt (16)) hx hb dX8_parts_121 rfl ?_
                refine lv_iload_n hx hb dX8_parts_123 rfl (lv_at hl 1 rfl) ?_
                replace h := bnd h
                obtain ⟨v18, e18, h⟩ := h
                refine o_i2l hx hb e18 dX8_parts_124 ?_
                refine lv_iconst (v := Int32.ofInt (0)) hx hb dX8_parts_125 rfl ?_
                refine lv_bipush (v := Int32.ofInt (10)) hx hb dX8_parts_126 rfl ?_
                replace h := bnd h
                obtain ⟨v19, e19, h⟩ := h
                refine m_callVv (k := 36) (As := [.int (Int32.ofInt (16)), .long (Int64.ofInt a1), .int (Int32.ofInt (0)), .int (Int32.ofInt (10))]) (rest := []) cx.fix hi hw (cc_X8_raise (l := l) (G := G) (sz := H.size) hi e19) (by decide) rfl rfl (w_cV 4 hts q_106 q_107 q_108 q_109 q_110 rfl rfl (by decide) (by decide)) hl.1 rfl (lv_room (Nat.le_of_ble_eq_true rfl)) dX8_parts_128 (fun H locs hw => ?_)
                refine lv_aload_n hx hb dX8_parts_131 rfl (lv_at hl 0 rfl) ?_
                refine lv_bipush (v := Int32.ofInt (10)) hx hb dX8_parts_132 rfl ?_
                refine lv_bipush (v := Int32.ofInt (11)) hx hb dX8_parts_134 rfl ?_
                replace h := bnd h
                obtain ⟨v20, e20, h⟩ := h
                refine m_callVv (k := 36) (As := [.int (Int32.ofInt (10)), .int (Int32.ofInt (11))]) (rest := []) cx.fix hi hw (cc_X8_copy (l := l) (G := G) (sz := H.size) hi e20) (by decide) rfl rfl (w_cV 2 hts q_24 q_25 q_26 q_27 q_28 rfl rfl (by decide) (by decide)) hl.1 rfl (lv_room (Nat.le_of_ble_eq_true rfl)) dX8_parts_136 (fun H locs hw => ?_)
                refine lv_aload_n hx hb dX8_parts_139 rfl (lv_at hl 0 rfl) ?_
                refine lv_bipush (v := Int32.ofInt (11)) hx hb dX8_parts_140 rfl ?_
                replace h := bnd h
                obtain ⟨v21, e21, h⟩ := h
                refine m_callVv (k := 36) (As := [.int (Int32.ofInt (11))]) (rest := []) cx.fix hi hw (cc_X8_lessLetter (l := l) (G := G) (sz := H.size) hi e21) (by decide) rfl rfl (w_cV 1 hts q_121 q_122 q_123 q_124 q_125 rfl rfl (by decide) (by decide)) hl.1 rfl (lv_room (Nat.le_of_ble_eq_true rfl)) dX8_parts_142 (fun H locs hw => ?_)
                refine lv_aload_n hx hb dX8_parts_145 rfl (lv_at hl 0 rfl) ?_
                refine lv_iconst (v := Int32.ofInt (0)) hx hb dX8_parts_146 rfl ?_
                refine lv_bipush (v := Int32.ofInt (17)) hx hb dX8_parts_147 rfl ?_
                replace h := bnd h
                obtain ⟨v22, e22, h⟩ := h
                refine m_callVv (k := 36) (As := [.int (Int32.ofInt (0)), .int (Int32.ofInt (17))]) (rest := []) cx.fix hi hw (cc_X8_copy (l := l) (G := G) (sz := H.size) hi e22) (by decide) rfl rfl (w_cV 2 hts q_24 q_25 q_26 q_27 q_28 rfl rfl (by decide) (by decide)) hl.1 rfl (lv_room (Nat.le_of_ble_eq_true rfl)) dX8_parts_149 (fun H locs hw => ?_)
                refine lv_aload_n hx hb dX8_parts_152 rfl (lv_at hl 0 rfl) ?_
                refine lv_bipush (v := Int32.ofInt (17)) hx hb dX8_parts_153 rfl ?_
                refine lv_bipush (v := Int32.ofInt (11)) hx hb dX8_parts_155 rfl ?_
                refine lv_bipush (v := Int32.ofInt (18)) hx hb dX8_parts_157 rfl ?_
                replace h := bnd h
                obtain ⟨v23, e23, h⟩ := h
                refine m_callVv (k := 36) (As := [.int (Int32.ofInt (17)), .int (Int32.ofInt (11)), .int (Int32.ofInt (18))]) (rest := []) cx.fix hi hw (cc_X8_commonRow (l := l) (G := G) (sz := H.size) hi e23) (by decide) rfl rfl (w_cV 3 hts q_79 q_80 q_81 q_82 q_83 rfl rfl (by decide) (by decide)) hl.1 rfl (lv_room (Nat.le_of_ble_eq_true rfl)) dX8_parts_159 (fun H locs hw => ?_)
                refine lv_aload_n hx hb dX8_parts_162 rfl (lv_at hl 0 rfl) ?_
                refine m_get (k := 36) (C := RX8) (T := TX8) (N := 18) (ref := "LiftFactorsModel") (v := .ref (adr 42)) hx hb hi hts inX8_u hown hw (by decide) rfl 8 (by decide) q_1 rfl rfl dX8_parts_163 ?_
                refine lv_bipush (v := Int32.ofInt (18)) hx hb dX8_parts_166 rfl ?_
                replace h := bnd h
                obtain ⟨v24, e24, h⟩ := h
                refine o_iald hx hb hi hw e24 dX8_parts_168 ?_
                refine lv_istore (lv' := [(6, .int (Int32.ofInt v24)), (0, .ref (adr 36)), (2, .int (Int32.ofInt a1)), (3, .int (Int32.ofInt v6)), (4, .int (Int32.ofInt v15)), (5, .int (Int32.ofInt v16))]) hx hb dX8_parts_169 hl (by decide) rfl (fun ls hl => ?_)
                refine lv_iconst (v := Int32.ofInt (1)) hx hb dX8_parts_171 rfl ?_
                refine lv_istore (lv' := [(7, .int (Int32.ofInt (1))), (6, .int (Int32.ofInt v24)), (0, .ref (adr 36)), (2, .int (Int32.ofInt a1)), (3, .int (Int32.ofInt v6)), (4, .int (Int32.ofInt v15)), (5, .int (Int32.ofInt v16))]) hx hb dX8_parts_172 hl (by decide) rfl (fun ls hl => ?_)
                replace h := bnd h
                obtain ⟨v32, j31, h⟩ := h
                refine lp_W (Wst := fun (st : Int × Int) => ∀ (ls : Array Slot) (H : Heap) (locs : List Loc), lv_has ls 8 [(0, .ref (adr 36)), (2, .int (Int32.ofInt a1)), (3, .int (Int32.ofInt v6)), (4, .int (Int32.ofInt v15)), (5, .int (Int32.ofInt v16)), (6, .int (Int32.ofInt st.1)), (7, .int (Int32.ofInt st.2))] → wH G A s.heap s (LL adr) (wf G adr (tm v23)) H locs → W p l e { frames := 4, cells := 0, slots := 0, locals := 111 } s m args below meth c H locs 0 0 Q (F0 m 174 ls [])) (fin := fun (r : Int) => ∀ (ls : Array Slot) (H : Heap) (locs : List Loc), lv_has ls 8 [(0, .ref (adr 36)), (2, .int (Int32.ofInt a1)), (3, .int (Int32.ofInt v6)), (4, .int (Int32.ofInt v15)), (5, .int (Int32.ofInt v16)), (6, .int (Int32.ofInt r))] → wH G A s.heap s (LL adr) (wf G adr (tm v23)) H locs → W p l e { frames := 4, cells := 0, slots := 0, locals := 111 } s m args below meth c H locs 0 0 Q (F0 m 210 ls [])) ?_ n _ _ j31 ?_ _ _ _ (lv_sub hl [2, 3, 4, 5, 6, 1, 0] rfl) hw
                · clear h j31 hw hl
                  intro ⟨v25, v26⟩ x h k1 k2 ls H locs hl hw
                  (try dsimp only at k1 k2 hl hw ⊢)
                  unfold l_X8_parts_174 at h
                  (try dsimp only at h)
                  refine lv_iload hx hb dX8_parts_174 (lv_at hl 6 rfl) ?_
                  refine lv_iload hx hb dX8_parts_176 (lv_at hl 4 rfl) ?_
                  replace h := bnd h
                  obtain ⟨_, hg, h⟩ := h
                  refine o_icmp_ge (tgt := 210) hx hb hg dX8_parts_178 (by decide) (fun hc => ?_) (fun hc => ?_)
                  · replace h := ite_t hc h
                    cases h
                    exact k1 _ rfl _ _ _ (lv_sub hl [0, 1, 2, 3, 4, 5] rfl) hw
                  · replace h := ite_f hc h
                    refine lv_iload hx hb dX8_parts_181 (lv_at hl 4 rfl) ?_
                    refine lv_iload hx hb dX8_parts_183 (lv_at hl 6 rfl) ?_
                    replace h := bnd h
                    obtain ⟨v27, e27, h⟩ := h
                    refine o_irem hx hb e27 dX8_parts_185 ?_
                    replace h := bnd h
                    obtain ⟨v29, j30, h⟩ := h
                    have kj : ∀ (ls : Array Slot) (H : Heap) (locs : List Loc), lv_has ls 8 [(0, .ref (adr 36)), (2, .int (Int32.ofInt a1)), (3, .int (Int32.ofInt v6)), (4, .int (Int32.ofInt v15)), (5, .int (Int32.ofInt v16)), (6, .int (Int32.ofInt v29)), (7, .int (Int32.ofInt v26))] → wH G A s.heap s (LL adr) (wf G adr (tm v23)) H locs → W p l e { frames := 4, cells := 0, slots := 0, locals := 111 } s m args below meth c H locs 0 0 Q (F0 m 204 ls []) := by
                      intro ls H locs hl hw
                      refine lv_iinc (v := Int32.ofInt (v26 + 1)) (lv' := [(7, .int (Int32.ofInt (v26 + 1))), (0, .ref (adr 36)), (2, .int (Int32.ofInt a1)), (3, .int (Int32.ofInt v6)), (4, .int (Int32.ofInt v15)), (5, .int (Int32.ofInt v16)), (6, .int (Int32.ofInt v29))]) hx hb dX8_parts_204 hl (k := 6) rfl (inc_o _ _) (by decide) rfl (fun ls hl => ?_)
                      refine lv_goto (tgt := 174) hx hb dX8_parts_207 (by decide) ?_
                      cases h
                      exact k2 _ rfl _ _ _ (lv_sub hl [1, 2, 3, 4, 5, 6, 0] rfl) hw
                    clear h
                    replace h := j30
                    clear j30
                    replace h := bnd h
                    obtain ⟨_, hg, h⟩ := h
                    refine o_if_ne (tgt := 204) hx hb hg dX8_parts_186 (by decide) (fun hc => ?_) (fun hc => ?_)
                    · replace h := ite_f hc h
                      cases h
                      exact kj _ _ _ (lv_sub hl [0, 1, 2, 3, 4, 5, 6] rfl) hw
                    · replace h := ite_t hc h
                      refine lv_iload hx hb dX8_parts_189 (lv_at hl 5 rfl) ?_
                      refine lv_iload hx hb dX8_parts_191 (lv_at hl 6 rfl) ?_
                      refine lv_aload_n hx hb dX8_parts_193 rfl (lv_at hl 0 rfl) ?_
                      refine m_get (k := 36) (C := RX8) (T := TX8) (N := 18) (ref := "LiftFactorsModel") (v := .ref (adr 45)) hx hb hi hts inX8_u hown hw (by decide) rfl 14 (by decide) q_236 rfl rfl dX8_parts_194 ?_
                      refine lv_iload hx hb dX8_parts_197 (lv_at hl 6 rfl) ?_
                      replace h := bnd h
                      obtain ⟨v28, e28, h⟩ := h
                      refine o_iald hx hb hi hw e28 dX8_parts_199 ?_
                      refine o_imul hx hb dX8_parts_200 ?_
                      refine o_isub hx hb dX8_parts_201 ?_
                      refine lv_istore (lv' := [(6, .int (Int32.ofInt (v25 - (v26 * v28)))), (0, .ref (adr 36)), (2, .int (Int32.ofInt a1)), (3, .int (Int32.ofInt v6)), (4, .int (Int32.ofInt v15)), (5, .int (Int32.ofInt v16)), (7, .int (Int32.ofInt v26))]) hx hb dX8_parts_202 hl (by decide) rfl (fun ls hl => ?_)
                      cases h
                      exact kj _ _ _ (lv_sub hl [1, 2, 3, 4, 5, 0, 6] rfl) hw
                · clear hw hl
                  intro ls H locs hl hw
                  (try dsimp only at hl hw ⊢)
                  refine lv_aload_n hx hb dX8_parts_210 rfl (lv_at hl 0 rfl) ?_
                  refine m_get (k := 36) (C := RX8) (T := TX8) (N := 18) (ref := "LiftFactorsModel") (v := .ref (adr 45)) hx hb hi hts inX8_u hown hw (by decide) rfl 14 (by decide) q_236 rfl rfl dX8_parts_211 ?_
                  refine lv_iload hx hb dX8_parts_214 (lv_at hl 4 rfl) ?_
                  refine lv_iload hx hb dX8_parts_216 (lv_at hl 5 rfl) ?_
                  refine lv_iload hx hb dX8_parts_218 (lv_at hl 4 rfl) ?_
                  replace h := bnd h
                  obtain ⟨v33, e33, h⟩ := h
                  refine o_idiv hx hb e33 dX8_parts_220 ?_
                  replace h := bnd h
                  obtain ⟨v34, e34, h⟩ := h
                  refine o_iast hx hb hi hw e34 dX8_parts_221 (fun H locs hw => ?_)
                  refine lv_iload hx hb dX8_parts_222 (lv_at hl 3 rfl) ?_
                  refine lv_iload hx hb dX8_parts_224 (lv_at hl 5 rfl) ?_
                  refine lv_iload hx hb dX8_parts_226 (lv_at hl 4 rfl) ?_
                  replace h := bnd h
                  obtain ⟨v35, e35, h⟩ := h
                  refine o_idiv hx hb e35 dX8_parts_228 ?_
                  refine o_iadd hx hb dX8_parts_229 ?_
                  refine lv_istore (lv' := [(4, .int (Int32.ofInt (v15 + v35))), (0, .ref (adr 36)), (2, .int (Int32.ofInt a1)), (3, .int (Int32.ofInt v6)), (5, .int (Int32.ofInt v16)), (6, .int (Int32.ofInt v32))]) hx hb dX8_parts_230 hl (by decide) rfl (fun ls hl => ?_)
                  refine lv_iinc (v := Int32.ofInt (v16 + 1)) (lv' := [(5, .int (Int32.ofInt (v16 + 1))), (4, .int (Int32.ofInt (v15 + v35))), (0, .ref (adr 36)), (2, .int (Int32.ofInt a1)), (3, .int (Int32.ofInt v6)), (6, .int (Int32.ofInt v32))]) hx hb dX8_parts_232 hl (k := 4) rfl (inc_o _ _) (by decide) rfl (fun ls hl => ?_)
                  refine lv_goto (tgt := 106) hx hb dX8_parts_235 (by decide) ?_
                  cases h
                  exact k2 _ rfl _ _ _ (lv_sub hl [2, 3, 4, 1, 0] rfl) hw
            · clear hw hl
              intro ls H locs hl hw
              (try dsimp only at hl hw ⊢)
              refine lv_iload hx hb dX8_parts_238 (lv_at hl 0 rfl) ?_
              cases h
              exact kr _ _ _ _ dX8_parts_240 hw
          · replace h := ite_t hc h
            refine lv_iconst (v := Int32.ofInt (0)) hx hb dX8_parts_80 rfl ?_
            cases h
            exact kr _ _ _ _ dX8_parts_81 hw
        · replace h := ite_f hc h
          refine lv_iconst (v := Int32.ofInt (-1)) hx hb dX8_parts_74 rfl ?_
          cases h
          exact kr _ _ _ _ dX8_parts_75 hw
    · replace h := ite_f hc h
      refine lv_iconst (v := Int32.ofInt (0)) hx hb dX8_parts_34 rfl ?_
      cases h
      exact kr _ _ _ _ dX8_parts_35 hw
  clear h
  replace h := j39
  clear j39
  replace h := bnd h
  obtain ⟨_, hg, h⟩ := h
  refine o_if_ne (tgt := 12) hx hb hg dX8_parts_5 (by decide) (fun hc => ?_) (fun hc => ?_)
  · replace h := ite_f hc h
    refine lv_iload_n hx hb dX8_parts_12 rfl (lv_at hl 2 rfl) ?_
    replace h := bnd h
    obtain ⟨v2, e2, h⟩ := h
    refine m_callSi (As := [.int (Int32.ofInt a1)]) (rest := [.ref (adr 36)]) cx.fix hw (cc_X8_isPrime (l := l) (G := G) (sz := H.size) (M := M) hi e2) (w_cS 1 hts q_232 q_233 q_234 q_235 rfl rfl (by decide) (by decide)) hl.1 rfl (lv_room (Nat.le_of_ble_eq_true rfl)) dX8_parts_13 (fun H locs hw => ?_)
    replace h := bnd h
    obtain ⟨_, hg, h⟩ := h
    refine o_if_ne (tgt := 23) hx hb hg dX8_parts_16 (by decide) (fun hc => ?_) (fun hc => ?_)
    · replace h := ite_f hc h
      refine lv_iconst (v := Int32.ofInt (0)) hx hb dX8_parts_23 rfl ?_
      cases h
      exact kj _ _ _ (lv_sub hl [0, 1, 2] rfl) hw
    · replace h := ite_t hc h
      refine lv_iconst (v := Int32.ofInt (2)) hx hb dX8_parts_19 rfl ?_
      refine lv_goto (tgt := 24) hx hb dX8_parts_20 (by decide) ?_
      cases h
      exact kj _ _ _ (lv_sub hl [0, 1, 2] rfl) hw
  · replace h := ite_t hc h
    refine lv_iconst (v := Int32.ofInt (1)) hx hb dX8_parts_8 rfl ?_
    refine lv_goto (tgt := 24) hx hb dX8_parts_9 (by decide) ?_
    cases h
    exact kj _ _ _ (lv_sub hl [0, 1, 2] rfl) hw
theorem cc_X8_parts {l : Launch} {G : gG} {adr : Nat → Nat} {sz : Nat} (hi : adi adr) {n : Nat} {a0 : Int} {a1 : Int} {M M' : MI} {r : Int} (h : f_X8_parts n a0 a1 M = some (r, M')) : mI l yX8_parts cX8_parts 8 (some .int) { frames := 4, cells := 0, slots := 0, locals := 111 } G adr [.ref (adr 36), .int (Int32.ofInt a0), .int (Int32.ofInt a1)] (tm M) sz (Int32.ofInt r) (tm M') := by
  refine wEnter (by decide) (Nat.le_of_ble_eq_true rfl) ?_
  intro p e s m below meth c ls cx hinit hl hsz hw
  exact b_X8_parts cx hi h (fun pc ls H locs hd hw => w_iret (post := fun (r9 : Int32) (u : Mem) => r9 = Int32.ofInt r ∧ u = tm M') (lf := fun u => (LL adr, wf G adr u)) cx.1 cx.2.1 cx.2.2.1 cx.2.2.2.2.2.2 (tm M') hw ⟨rfl, rfl⟩ hd) hl hw
def f_X8_squareFree (n : Nat) (a0 : Int) (M : MI) : Option (Int × MI) :=
  Option.bind (f_X8_isPoly a0) fun v1 =>
  Option.bind (
    Option.bind (gI v1 0) fun _ =>
    if v1 = 0 then
      some (1)
    else
      some (0)) fun v2 =>
  Option.bind (opI M 36 3 v2) fun v3 =>
  Option.bind (gI (v3.2 36 3) 0) fun _ =>
  if (v3.2 36 3) = 0 then
    Option.bind (f_X8_load n a0 (0) v3) fun v4 =>
    Option.bind (odI v4 42 (0)) fun v5 =>
    Option.bind (gI v5 (1)) fun _ =>
    if (1) ≤ v5 then
      Option.bind (f_X8_primitive n (0) v4) fun (v6, M7) =>
      Option.bind (f_X8_derive n (0) (2) M7) fun v8 =>
      Option.bind (f_X8_commonWhole n (0) (2) (11) v8) fun v9 =>
      Option.bind (odI v9 42 (11)) fun v10 =>
      Option.bind (
        Option.bind (gI v10 0) fun _ =>
        if v10 = 0 then
          some (1)
        else
          some (0)) fun v11 =>
      Option.bind (obz v11) fun v12 =>
      some (v12, v9)
    else
      Option.bind (odI v4 42 (0)) fun v14 =>
      Option.bind (
        Option.bind (gI v14 0) fun _ =>
        if v14 = 0 then
          some (1)
        else
          some (0)) fun v15 =>
      Option.bind (obz v15) fun v16 =>
      some (v16, v4)
  else
    some ((0), v3)
set_option maxRecDepth 100000 in
set_option maxHeartbeats 8000000 in
theorem b_X8_squareFree {p : Program} {l : Launch} {e : Env} {s : State} {m : MethodId} {args : Array Value} {below : List Frame} {meth : Method} {c : Code} {Q : State → Prop} {G : gG} {A : Nat → Prop} {adr : Nat → Nat} (cx : cX p s m args meth c cX8_squareFree (some .boolean) 2 yX8_squareFree.cls) (hi : adi adr) {n : Nat} {a0 : Int} {M M' : MI} {r : Int} 
    (h : f_X8_squareFree n a0 M = some (r, M'))
    (kr : ∀ (pc : Nat) (ls : Array Slot) (H : Heap) (locs : List Loc), decode cX8_squareFree pc = .ok (.ireturn, 1) → narrow .boolean (.int (Int32.ofInt r)) = .int (Int32.ofInt r) → wH G A s.heap s (LL adr) (wf G adr (tm M')) H locs → W p l e { frames := 5, cells := 0, slots := 0, locals := 133 } s m args below meth c H locs 0 0 Q (F0 m pc ls [.int (Int32.ofInt r)]))
    {ls : Array Slot} {H : Heap} {locs : List Loc} (hl : lv_has ls 2 [(0, .ref (adr 36)), (1, .int (Int32.ofInt a0))]) (hw : wH G A s.heap s (LL adr) (wf G adr (tm M)) H locs) : W p l e { frames := 5, cells := 0, slots := 0, locals := 133 } s m args below meth c H locs 0 0 Q (F0 m 0 ls []) := by
  obtain ⟨hx, hb, -, -, hown, hts, -⟩ := id cx
  have hown : s.vm.findClass RX8 = some m.cls := hown
  unfold f_X8_squareFree at h
  refine lv_aload_n hx hb dX8_squareFree_0 rfl (lv_at hl 0 rfl) ?_
  refine lv_iload_n hx hb dX8_squareFree_1 rfl (lv_at hl 1 rfl) ?_
  replace h := bnd h
  obtain ⟨v1, e1, h⟩ := h
  refine m_callSi (As := [.int (Int32.ofInt a0)]) (rest := [.ref (adr 36)]) cx.fix hw (cc_X8_isPoly (l := l) (G := G) (sz := H.size) (M := M) hi e1) (w_cS 1 hts q_167 q_168 q_169 q_170 rfl rfl (by decide) (by decide)) hl.1 rfl (lv_room (Nat.le_of_ble_eq_true rfl)) dX8_squareFree_2 (fun H locs hw => ?_)
  replace h := bnd h
  obtain ⟨v2, j18, h⟩ := h
  have kj : ∀ (ls : Array Slot) (H : Heap) (locs : List Loc), lv_has ls 2 [(0, .ref (adr 36)), (1, .int (Int32.ofInt a0))] → wH G A s.heap s (LL adr) (wf G adr (tm M)) H locs → W p l e { frames := 5, cells := 0, slots := 0, locals := 133 } s m args below meth c H locs 0 0 Q (F0 m 13 ls [.int (Int32.ofInt v2), .ref (adr 36)]) := by
    intro ls H locs hl hw
    replace h := bnd h
    obtain ⟨v3, e3, h⟩ := h
    refine o_putI (k := 36) (C := RX8) (T := TX8) (N := 18) (ref := "LiftFactorsModel") hx hb hi hts inX8_u tyX8 tyX8_ok nmX8 hown hw (by decide) rfl 3 (by decide) q_171 rfl rfl e3 (by decide +kernel) rfl dX8_squareFree_13 (fun H locs hw => ?_)
    refine lv_aload_n hx hb dX8_squareFree_16 rfl (lv_at hl 0 rfl) ?_
    refine m_get (k := 36) (C := RX8) (T := TX8) (N := 18) (ref := "LiftFactorsModel") (v := .int (Int32.ofInt (v3.2 36 3))) hx hb hi hts inX8_u hown hw (by decide) rfl 3 (by decide) q_171 rfl rfl dX8_squareFree_17 ?_
    replace h := bnd h
    obtain ⟨_, hg, h⟩ := h
    refine o_if_eq (tgt := 25) hx hb hg dX8_squareFree_20 (by decide) (fun hc => ?_) (fun hc => ?_)
    · replace h := ite_t hc h
      refine lv_aload_n hx hb dX8_squareFree_25 rfl (lv_at hl 0 rfl) ?_
      refine lv_iload_n hx hb dX8_squareFree_26 rfl (lv_at hl 1 rfl) ?_
      refine lv_iconst (v := Int32.ofInt (0)) hx hb dX8_squareFree_27 rfl ?_
      replace h := bnd h
      obtain ⟨v4, e4, h⟩ := h
      refine m_callVv (k := 36) (As := [.int (Int32.ofInt a0), .int (Int32.ofInt (0))]) (rest := []) cx.fix hi hw (cc_X8_load (l := l) (G := G) (sz := H.size) hi e4) (by decide) rfl rfl (w_cV 2 hts q_172 q_173 q_174 q_175 q_176 rfl rfl (by decide) (by decide)) hl.1 rfl (lv_room (Nat.le_of_ble_eq_true rfl)) dX8_squareFree_28 (fun H locs hw => ?_)
      refine lv_aload_n hx hb dX8_squareFree_31 rfl (lv_at hl 0 rfl) ?_
      refine m_get (k := 36) (C := RX8) (T := TX8) (N := 18) (ref := "LiftFactorsModel") (v := .ref (adr 42)) hx hb hi hts inX8_u hown hw (by decide) rfl 8 (by decide) q_1 rfl rfl dX8_squareFree_32 ?_
      refine lv_iconst (v := Int32.ofInt (0)) hx hb dX8_squareFree_35 rfl ?_
      replace h := bnd h
      obtain ⟨v5, e5, h⟩ := h
      refine o_iald hx hb hi hw e5 dX8_squareFree_36 ?_
      refine lv_iconst (v := Int32.ofInt (1)) hx hb dX8_squareFree_37 rfl ?_
      replace h := bnd h
      obtain ⟨_, hg, h⟩ := h
      refine o_icmp_ge (tgt := 56) hx hb hg dX8_squareFree_38 (by decide) (fun hc => ?_) (fun hc => ?_)
      · replace h := ite_t hc h
        refine lv_aload_n hx hb dX8_squareFree_56 rfl (lv_at hl 0 rfl) ?_
        refine lv_iconst (v := Int32.ofInt (0)) hx hb dX8_squareFree_57 rfl ?_
        replace h := bnd h
        obtain ⟨⟨v6, M7⟩, e6, h⟩ := h
        refine m_callVl (k := 36) (As := [.int (Int32.ofInt (0))]) (rest := []) cx.fix hi hw (cc_X8_primitive (l := l) (G := G) (sz := H.size) hi e6) (by decide) rfl rfl (w_cV 1 hts q_64 q_65 q_66 q_67 q_68 rfl rfl (by decide) (by decide)) hl.1 rfl (lv_room (Nat.le_of_ble_eq_true rfl)) dX8_squareFree_58 (fun H locs hw => ?_)
        refine lv_pop2_2 hx hb dX8_squareFree_61 rfl ?_
        refine lv_aload_n hx hb dX8_squareFree_62 rfl (lv_at hl 0 rfl) ?_
        refine lv_iconst (v := Int32.ofInt (0)) hx hb dX8_squareFree_63 rfl ?_
        refine lv_iconst (v := Int32.ofInt (2)) hx hb dX8_squareFree_64 rfl ?_
        replace h := bnd h
        obtain ⟨v8, e8, h⟩ := h
        refine m_callVv (k := 36) (As := [.int (Int32.ofInt (0)), .int (Int32.ofInt (2))]) (rest := []) cx.fix hi hw (cc_X8_derive (l := l) (G := G) (sz := H.size) hi e8) (by decide) rfl rfl (w_cV 2 hts q_132 q_133 q_134 q_135 q_136 rfl rfl (by decide) (by decide)) hl.1 rfl (lv_room (Nat.le_of_ble_eq_true rfl)) dX8_squareFree_65 (fun H locs hw => ?_)
        refine lv_aload_n hx hb dX8_squareFree_68 rfl (lv_at hl 0 rfl) ?_
        refine lv_iconst (v := Int32.ofInt (0)) hx hb dX8_squareFree_69 rfl ?_
        refine lv_iconst (v := Int32.ofInt (2)) hx hb dX8_squareFree_70 rfl ?_
        refine lv_bipush (v := Int32.ofInt (11)) hx hb dX8_squareFree_71 rfl ?_
        replace h := bnd h
        obtain ⟨v9, e9, h⟩ := h
        refine m_callVv (k := 36) (As := [.int (Int32.ofInt (0)), .int (Int32.ofInt (2)), .int (Int32.ofInt (11))]) (rest := []) cx.fix hi hw (cc_X8_commonWhole (l := l) (G := G) (sz := H.size) hi e9) (by decide) rfl rfl (w_cV 3 hts q_161 q_162 q_163 q_164 q_165 rfl rfl (by decide) (by decide)) hl.1 rfl (lv_room (Nat.le_of_ble_eq_true rfl)) dX8_squareFree_73 (fun H locs hw => ?_)
        refine lv_aload_n hx hb dX8_squareFree_76 rfl (lv_at hl 0 rfl) ?_
        refine m_get (k := 36) (C := RX8) (T := TX8) (N := 18) (ref := "LiftFactorsModel") (v := .ref (adr 42)) hx hb hi hts inX8_u hown hw (by decide) rfl 8 (by decide) q_1 rfl rfl dX8_squareFree_77 ?_
        refine lv_bipush (v := Int32.ofInt (11)) hx hb dX8_squareFree_80 rfl ?_
        replace h := bnd h
        obtain ⟨v10, e10, h⟩ := h
        refine o_iald hx hb hi hw e10 dX8_squareFree_82 ?_
        replace h := bnd h
        obtain ⟨v11, j13, h⟩ := h
        have kj : ∀ (ls : Array Slot) (H : Heap) (locs : List Loc), lv_has ls 2 [] → wH G A s.heap s (LL adr) (wf G adr (tm v9)) H locs → W p l e { frames := 5, cells := 0, slots := 0, locals := 133 } s m args below meth c H locs 0 0 Q (F0 m 91 ls [.int (Int32.ofInt v11)]) := by
          intro ls H locs hl hw
          replace h := bnd h
          obtain ⟨v12, eZ, h⟩ := h
          obtain ⟨rfl, eZ⟩ := obz_ok eZ
          cases h
          exact kr _ _ _ _ dX8_squareFree_91 eZ hw
        clear h
        replace h := j13
        clear j13
        replace h := bnd h
        obtain ⟨_, hg, h⟩ := h
        refine o_if_ne (tgt := 90) hx hb hg dX8_squareFree_83 (by decide) (fun hc => ?_) (fun hc => ?_)
        · replace h := ite_f hc h
          refine lv_iconst (v := Int32.ofInt (0)) hx hb dX8_squareFree_90 rfl ?_
          cases h
          exact kj _ _ _ (lv_sub hl [] rfl) hw
        · replace h := ite_t hc h
          refine lv_iconst (v := Int32.ofInt (1)) hx hb dX8_squareFree_86 rfl ?_
          refine lv_goto (tgt := 91) hx hb dX8_squareFree_87 (by decide) ?_
          cases h
          exact kj _ _ _ (lv_sub hl [] rfl) hw
      · replace h := ite_f hc h
        refine lv_aload_n hx hb dX8_squareFree_41 rfl (lv_at hl 0 rfl) ?_
        refine m_get (k := 36) (C := RX8) (T := TX8) (N := 18) (ref := "LiftFactorsModel") (v := .ref (adr 42)) hx hb hi hts inX8_u hown hw (by decide) rfl 8 (by decide) q_1 rfl rfl dX8_squareFree_42 ?_
        refine lv_iconst (v := Int32.ofInt (0)) hx hb dX8_squareFree_45 rfl ?_
        replace h := bnd h
        obtain ⟨v14, e14, h⟩ := h
        refine o_iald hx hb hi hw e14 dX8_squareFree_46 ?_
        replace h := bnd h
        obtain ⟨v15, j17, h⟩ := h
        have kj : ∀ (ls : Array Slot) (H : Heap) (locs : List Loc), lv_has ls 2 [] → wH G A s.heap s (LL adr) (wf G adr (tm v4)) H locs → W p l e { frames := 5, cells := 0, slots := 0, locals := 133 } s m args below meth c H locs 0 0 Q (F0 m 55 ls [.int (Int32.ofInt v15)]) := by
          intro ls H locs hl hw
          replace h := bnd h
          obtain ⟨v16, eZ, h⟩ := h
          obtain ⟨rfl, eZ⟩ := obz_ok eZ
          cases h
          exact kr _ _ _ _ dX8_squareFree_55 eZ hw
        clear h
        replace h := j17
        clear j17
        replace h := bnd h
        obtain ⟨_, hg, h⟩ := h
        refine o_if_ne (tgt := 54) hx hb hg dX8_squareFree_47 (by decide) (fun hc => ?_) (fun hc => ?_)
        · replace h := ite_f hc h
          refine lv_iconst (v := Int32.ofInt (0)) hx hb dX8_squareFree_54 rfl ?_
          cases h
          exact kj _ _ _ (lv_sub hl [] rfl) hw
        · replace h := ite_t hc h
          refine lv_iconst (v := Int32.ofInt (1)) hx hb dX8_squareFree_50 rfl ?_
          refine lv_goto (tgt := 55) hx hb dX8_squareFree_51 (by decide) ?_
          cases h
          exact kj _ _ _ (lv_sub hl [] rfl) hw
    · replace h := ite_f hc h
      refine lv_iconst (v := Int32.ofInt (0)) hx hb dX8_squareFree_23 rfl ?_
      cases h
      exact kr _ _ _ _ dX8_squareFree_24 nb0 hw
  clear h
  replace h := j18
  clear j18
  replace h := bnd h
  obtain ⟨_, hg, h⟩ := h
  refine o_if_eq (tgt := 12) hx hb hg dX8_squareFree_5 (by decide) (fun hc => ?_) (fun hc => ?_)
  · replace h := ite_t hc h
    refine lv_iconst (v := Int32.ofInt (1)) hx hb dX8_squareFree_12 rfl ?_
    cases h
    exact kj _ _ _ (lv_sub hl [0, 1] rfl) hw
  · replace h := ite_f hc h
    refine lv_iconst (v := Int32.ofInt (0)) hx hb dX8_squareFree_8 rfl ?_
    refine lv_goto (tgt := 13) hx hb dX8_squareFree_9 (by decide) ?_
    cases h
    exact kj _ _ _ (lv_sub hl [0, 1] rfl) hw
theorem cc_X8_squareFree {l : Launch} {G : gG} {adr : Nat → Nat} {sz : Nat} (hi : adi adr) {n : Nat} {a0 : Int} {M M' : MI} {r : Int} (h : f_X8_squareFree n a0 M = some (r, M')) : mI l yX8_squareFree cX8_squareFree 2 (some .boolean) { frames := 5, cells := 0, slots := 0, locals := 133 } G adr [.ref (adr 36), .int (Int32.ofInt a0)] (tm M) sz (Int32.ofInt r) (tm M') := by
  refine wEnter (by decide) (Nat.le_of_ble_eq_true rfl) ?_
  intro p e s m below meth c ls cx hinit hl hsz hw
  exact b_X8_squareFree cx hi h (fun pc ls H locs hd hz hw => w_zret (post := fun (r9 : Int32) (u : Mem) => r9 = Int32.ofInt r ∧ u = tm M') (lf := fun u => (LL adr, wf G adr u)) cx.1 cx.2.1 cx.2.2.1 cx.2.2.2.2.2.2 hz (tm M') hw ⟨rfl, rfl⟩ hd) hl hw
theorem q_237 : Cond.constant RX8 226 (1000000) ∈ uU := uU_in (by decide +kernel) (by decide +kernel)
def l_X8_value_47 (a0 : Int) (a1 : Int) (a2 : Int) (v3 : MI) : Int × Int → Option ((Int) ⊕ (Int × Int)) := fun (v4, v5) =>
  Option.bind (gI v5 0) fun _ =>
  if v5 < 0 then
    some (.inl v4)
  else
    Option.bind (gI a1 0) fun v6 =>
    Option.bind (odI v3 38 (((11) * a0) + v5)) fun v7 =>
    Option.bind (gI v7 0) fun v8 =>
    Option.bind (gI a2 0) fun v9 =>
    Option.bind (orJ ((v4 * a1) + v7) a2) fun v10 =>
    some (.inr (v10, v5 + (-1)))
def f_X8_value (n : Nat) (a0 : Int) (a1 : Int) (a2 : Int) (M : MI) : Option (Int × MI) :=
  Option.bind (f_X8_isPoly a0) fun v1 =>
  Option.bind (
    Option.bind (gI v1 0) fun _ =>
    if v1 = 0 then
      some (1)
    else
      Option.bind (gI a2 (1)) fun _ =>
      if a2 < (1) then
        some (2)
      else
        Option.bind (gI a2 (1000000)) fun _ =>
        if a2 ≤ (1000000) then
          some (0)
        else
          some (2)) fun v2 =>
  Option.bind (opI M 36 3 v2) fun v3 =>
  Option.bind (gI (v3.2 36 3) 0) fun _ =>
  if (v3.2 36 3) = 0 then
    Option.bind (lpF (l_X8_value_47 a0 a1 a2 v3) n ((0), (10))) fun v12 =>
    Option.bind (
      Option.bind (gJ v12 (0)) fun _ =>
      if (0) ≤ v12 then
        some v12
      else
        Option.bind (gI a2 0) fun v13 =>
        some (v12 + a2)) fun v14 =>
    Option.bind (gJ v14 0) fun v15 =>
    some (v14, v3)
  else
    some ((0), v3)
set_option maxRecDepth 100000 in
set_option maxHeartbeats 8000000 in
theorem b_X8_value {p : Program} {l : Launch} {e : Env} {s : State} {m : MethodId} {args : Array Value} {below : List Frame} {meth : Method} {c : Code} {Q : State → Prop} {G : gG} {A : Nat → Prop} {adr : Nat → Nat} (cx : cX p s m args meth c cX8_value (some .int) 7 yX8_value.cls) (hi : adi adr) {n : Nat} {a0 : Int} {a1 : Int} {a2 : Int} {M M' : MI} {r : Int} 
    (h : f_X8_value n a0 a1 a2 M = some (r, M'))
    (kr : ∀ (pc : Nat) (ls : Array Slot) (H : Heap) (locs : List Loc), decode cX8_value pc = .ok (.ireturn, 1) → wH G A s.heap s (LL adr) (wf G adr (tm M')) H locs → W p l e { frames := 1, cells := 0, slots := 0, locals := 20 } s m args below meth c H locs 0 0 Q (F0 m pc ls [.int (Int32.ofInt r)]))
    {ls : Array Slot} {H : Heap} {locs : List Loc} (hl : lv_has ls 7 [(0, .ref (adr 36)), (1, .int (Int32.ofInt a0)), (2, .int (Int32.ofInt a1)), (3, .int (Int32.ofInt a2))]) (hw : wH G A s.heap s (LL adr) (wf G adr (tm M)) H locs) : W p l e { frames := 1, cells := 0, slots := 0, locals := 20 } s m args below meth c H locs 0 0 Q (F0 m 0 ls []) := by
  obtain ⟨hx, hb, -, -, hown, hts, -⟩ := id cx
  have hown : s.vm.findClass RX8 = some m.cls := hown
  unfold f_X8_value at h
  refine lv_aload_n hx hb dX8_value_0 rfl (lv_at hl 0 rfl) ?_
  refine lv_iload_n hx hb dX8_value_1 rfl (lv_at hl 1 rfl) ?_
  replace h := bnd h
  obtain ⟨v1, e1, h⟩ := h
  refine m_callSi (As := [.int (Int32.ofInt a0)]) (rest := [.ref (adr 36)]) cx.fix hw (cc_X8_isPoly (l := l) (G := G) (sz := H.size) (M := M) hi e1) (w_cS 1 hts q_167 q_168 q_169 q_170 rfl rfl (by decide) (by decide)) hl.1 rfl (lv_room (Nat.le_of_ble_eq_true rfl)) dX8_value_2 (fun H locs hw => ?_)
  replace h := bnd h
  obtain ⟨v2, j17, h⟩ := h
  have kj : ∀ (ls : Array Slot) (H : Heap) (locs : List Loc), lv_has ls 7 [(0, .ref (adr 36)), (1, .int (Int32.ofInt a0)), (2, .int (Int32.ofInt a1)), (3, .int (Int32.ofInt a2))] → wH G A s.heap s (LL adr) (wf G adr (tm M)) H locs → W p l e { frames := 1, cells := 0, slots := 0, locals := 20 } s m args below meth c H locs 0 0 Q (F0 m 28 ls [.int (Int32.ofInt v2), .ref (adr 36)]) := by
    intro ls H locs hl hw
    replace h := bnd h
    obtain ⟨v3, e3, h⟩ := h
    refine o_putI (k := 36) (C := RX8) (T := TX8) (N := 18) (ref := "LiftFactorsModel") hx hb hi hts inX8_u tyX8 tyX8_ok nmX8 hown hw (by decide) rfl 3 (by decide) q_171 rfl rfl e3 (by decide +kernel) rfl dX8_value_28 (fun H locs hw => ?_)
    refine lv_aload_n hx hb dX8_value_31 rfl (lv_at hl 0 rfl) ?_
    refine m_get (k := 36) (C := RX8) (T := TX8) (N := 18) (ref := "LiftFactorsModel") (v := .int (Int32.ofInt (v3.2 36 3))) hx hb hi hts inX8_u hown hw (by decide) rfl 3 (by decide) q_171 rfl rfl dX8_value_32 ?_
    replace h := bnd h
    obtain ⟨_, hg, h⟩ := h
    refine o_if_eq (tgt := 40) hx hb hg dX8_value_35 (by decide) (fun hc => ?_) (fun hc => ?_)
    · replace h := ite_t hc h
      refine lv_lconst (v := Int64.ofInt (0)) hx hb dX8_value_40 (by decide) ?_
      refine lv_lstore (lv' := [(4, .long (Int64.ofInt (0))), (0, .ref (adr 36)), (1, .int (Int32.ofInt a0)), (2, .int (Int32.ofInt a1)), (3, .int (Int32.ofInt a2))]) hx hb dX8_value_41 hl (by decide) rfl (fun ls hl => ?_)
      refine lv_bipush (v := Int32.ofInt (10)) hx hb dX8_value_43 rfl ?_
      refine lv_istore (lv' := [(6, .int (Int32.ofInt (10))), (4, .long (Int64.ofInt (0))), (0, .ref (adr 36)), (1, .int (Int32.ofInt a0)), (2, .int (Int32.ofInt a1)), (3, .int (Int32.ofInt a2))]) hx hb dX8_value_45 hl (by decide) rfl (fun ls hl => ?_)
      replace h := bnd h
      obtain ⟨v12, j11, h⟩ := h
      refine lp_W (Wst := fun (st : Int × Int) => ∀ (ls : Array Slot) (H : Heap) (locs : List Loc), lv_has ls 7 [(0, .ref (adr 36)), (1, .int (Int32.ofInt a0)), (2, .int (Int32.ofInt a1)), (3, .int (Int32.ofInt a2)), (4, .long (Int64.ofInt st.1)), (6, .int (Int32.ofInt st.2))] → wH G A s.heap s (LL adr) (wf G adr (tm v3)) H locs → W p l e { frames := 1, cells := 0, slots := 0, locals := 20 } s m args below meth c H locs 0 0 Q (F0 m 47 ls [])) (fin := fun (r : Int) => ∀ (ls : Array Slot) (H : Heap) (locs : List Loc), lv_has ls 7 [(3, .int (Int32.ofInt a2)), (4, .long (Int64.ofInt r))] → wH G A s.heap s (LL adr) (wf G adr (tm v3)) H locs → W p l e { frames := 1, cells := 0, slots := 0, locals := 20 } s m args below meth c H locs 0 0 Q (F0 m 82 ls [])) ?_ n _ _ j11 ?_ _ _ _ (lv_sub hl [2, 3, 4, 5, 1, 0] rfl) hw
      · clear h j11 hw hl
        intro ⟨v4, v5⟩ x h k1 k2 ls H locs hl hw
        (try dsimp only at k1 k2 hl hw ⊢)
        unfold l_X8_value_47 at h
        (try dsimp only at h)
        refine lv_iload hx hb dX8_value_47 (lv_at hl 5 rfl) ?_
        replace h := bnd h
        obtain ⟨_, hg, h⟩ := h
        refine o_if_lt (tgt := 82) hx hb hg dX8_value_49 (by decide) (fun hc => ?_) (fun hc => ?_)
        · replace h := ite_t hc h
          cases h
          exact k1 _ rfl _ _ _ (lv_sub hl [3, 4] rfl) hw
        · replace h := ite_f hc h
          refine lv_lload hx hb dX8_value_52 (lv_at hl 4 rfl) ?_
          refine lv_iload_n hx hb dX8_value_54 rfl (lv_at hl 2 rfl) ?_
          replace h := bnd h
          obtain ⟨v6, e6, h⟩ := h
          refine o_i2l hx hb e6 dX8_value_55 ?_
          refine o_lmul hx hb dX8_value_56 ?_
          refine lv_aload_n hx hb dX8_value_57 rfl (lv_at hl 0 rfl) ?_
          refine m_get (k := 36) (C := RX8) (T := TX8) (N := 18) (ref := "LiftFactorsModel") (v := .ref (adr 38)) hx hb hi hts inX8_u hown hw (by decide) rfl 1 (by decide) q_10 rfl rfl dX8_value_58 ?_
          refine lv_bipush (v := Int32.ofInt (11)) hx hb dX8_value_61 rfl ?_
          refine lv_iload_n hx hb dX8_value_63 rfl (lv_at hl 1 rfl) ?_
          refine o_imul hx hb dX8_value_64 ?_
          refine lv_iload hx hb dX8_value_65 (lv_at hl 5 rfl) ?_
          refine o_iadd hx hb dX8_value_67 ?_
          replace h := bnd h
          obtain ⟨v7, e7, h⟩ := h
          refine o_iald hx hb hi hw e7 dX8_value_68 ?_
          replace h := bnd h
          obtain ⟨v8, e8, h⟩ := h
          refine o_i2l hx hb e8 dX8_value_69 ?_
          refine o_ladd hx hb dX8_value_70 ?_
          refine lv_iload_n hx hb dX8_value_71 rfl (lv_at hl 3 rfl) ?_
          replace h := bnd h
          obtain ⟨v9, e9, h⟩ := h
          refine o_i2l hx hb e9 dX8_value_72 ?_
          replace h := bnd h
          obtain ⟨v10, e10, h⟩ := h
          refine o_lrem hx hb e10 dX8_value_73 ?_
          refine lv_lstore (lv' := [(4, .long (Int64.ofInt v10)), (0, .ref (adr 36)), (1, .int (Int32.ofInt a0)), (2, .int (Int32.ofInt a1)), (3, .int (Int32.ofInt a2)), (6, .int (Int32.ofInt v5))]) hx hb dX8_value_74 hl (by decide) rfl (fun ls hl => ?_)
          refine lv_iinc (v := Int32.ofInt (v5 + (-1))) (lv' := [(6, .int (Int32.ofInt (v5 + (-1)))), (4, .long (Int64.ofInt v10)), (0, .ref (adr 36)), (1, .int (Int32.ofInt a0)), (2, .int (Int32.ofInt a1)), (3, .int (Int32.ofInt a2))]) hx hb dX8_value_76 hl (k := 5) rfl (inc_o _ _) (by decide) rfl (fun ls hl => ?_)
          refine lv_goto (tgt := 47) hx hb dX8_value_79 (by decide) ?_
          cases h
          exact k2 _ rfl _ _ _ (lv_sub hl [2, 3, 4, 5, 1, 0] rfl) hw
      · clear hw hl
        intro ls H locs hl hw
        (try dsimp only at hl hw ⊢)
        refine lv_lload hx hb dX8_value_82 (lv_at hl 1 rfl) ?_
        refine lv_lconst (v := Int64.ofInt (0)) hx hb dX8_value_84 (by decide) ?_
        replace h := bnd h
        obtain ⟨v14, j16, h⟩ := h
        have kj : ∀ (ls : Array Slot) (H : Heap) (locs : List Loc), lv_has ls 7 [] → wH G A s.heap s (LL adr) (wf G adr (tm v3)) H locs → W p l e { frames := 1, cells := 0, slots := 0, locals := 20 } s m args below meth c H locs 0 0 Q (F0 m 99 ls [.long (Int64.ofInt v14)]) := by
          intro ls H locs hl hw
          replace h := bnd h
          obtain ⟨v15, e15, h⟩ := h
          refine o_l2i hx hb e15 dX8_value_99 ?_
          cases h
          exact kr _ _ _ _ dX8_value_100 hw
        clear h
        replace h := j16
        clear j16
        replace h := bnd h
        obtain ⟨_, hg, h⟩ := h
        refine o_lcmp_ge (tgt := 97) hx hb hg dX8_value_85 dX8_value_86 (by decide) (fun hc => ?_) (fun hc => ?_)
        · replace h := ite_t hc h
          refine lv_lload hx hb dX8_value_97 (lv_at hl 1 rfl) ?_
          cases h
          exact kj _ _ _ (lv_sub hl [] rfl) hw
        · replace h := ite_f hc h
          refine lv_lload hx hb dX8_value_89 (lv_at hl 1 rfl) ?_
          refine lv_iload_n hx hb dX8_value_91 rfl (lv_at hl 0 rfl) ?_
          replace h := bnd h
          obtain ⟨v13, e13, h⟩ := h
          refine o_i2l hx hb e13 dX8_value_92 ?_
          refine o_ladd hx hb dX8_value_93 ?_
          refine lv_goto (tgt := 99) hx hb dX8_value_94 (by decide) ?_
          cases h
          exact kj _ _ _ (lv_sub hl [] rfl) hw
    · replace h := ite_f hc h
      refine lv_iconst (v := Int32.ofInt (0)) hx hb dX8_value_38 rfl ?_
      cases h
      exact kr _ _ _ _ dX8_value_39 hw
  clear h
  replace h := j17
  clear j17
  replace h := bnd h
  obtain ⟨_, hg, h⟩ := h
  refine o_if_ne (tgt := 12) hx hb hg dX8_value_5 (by decide) (fun hc => ?_) (fun hc => ?_)
  · replace h := ite_f hc h
    refine lv_iload_n hx hb dX8_value_12 rfl (lv_at hl 3 rfl) ?_
    refine lv_iconst (v := Int32.ofInt (1)) hx hb dX8_value_13 rfl ?_
    replace h := bnd h
    obtain ⟨_, hg, h⟩ := h
    refine o_icmp_lt (tgt := 23) hx hb hg dX8_value_14 (by decide) (fun hc => ?_) (fun hc => ?_)
    · replace h := ite_t hc h
      refine lv_iconst (v := Int32.ofInt (2)) hx hb dX8_value_23 rfl ?_
      refine lv_goto (tgt := 28) hx hb dX8_value_24 (by decide) ?_
      cases h
      exact kj _ _ _ (lv_sub hl [0, 1, 2, 3] rfl) hw
    · replace h := ite_f hc h
      refine lv_iload_n hx hb dX8_value_17 rfl (lv_at hl 3 rfl) ?_
      refine lv_ldc (v := Int32.ofInt (1000000)) hx hb hown (hts _ q_237) dX8_value_18 ?_
      replace h := bnd h
      obtain ⟨_, hg, h⟩ := h
      refine o_icmp_le (tgt := 27) hx hb hg dX8_value_20 (by decide) (fun hc => ?_) (fun hc => ?_)
      · replace h := ite_t hc h
        refine lv_iconst (v := Int32.ofInt (0)) hx hb dX8_value_27 rfl ?_
        cases h
        exact kj _ _ _ (lv_sub hl [0, 1, 2, 3] rfl) hw
      · replace h := ite_f hc h
        refine lv_iconst (v := Int32.ofInt (2)) hx hb dX8_value_23 rfl ?_
        refine lv_goto (tgt := 28) hx hb dX8_value_24 (by decide) ?_
        cases h
        exact kj _ _ _ (lv_sub hl [0, 1, 2, 3] rfl) hw
  · replace h := ite_t hc h
    refine lv_iconst (v := Int32.ofInt (1)) hx hb dX8_value_8 rfl ?_
    refine lv_goto (tgt := 28) hx hb dX8_value_9 (by decide) ?_
    cases h
    exact kj _ _ _ (lv_sub hl [0, 1, 2, 3] rfl) hw
theorem cc_X8_value {l : Launch} {G : gG} {adr : Nat → Nat} {sz : Nat} (hi : adi adr) {n : Nat} {a0 : Int} {a1 : Int} {a2 : Int} {M M' : MI} {r : Int} (h : f_X8_value n a0 a1 a2 M = some (r, M')) : mI l yX8_value cX8_value 7 (some .int) { frames := 1, cells := 0, slots := 0, locals := 20 } G adr [.ref (adr 36), .int (Int32.ofInt a0), .int (Int32.ofInt a1), .int (Int32.ofInt a2)] (tm M) sz (Int32.ofInt r) (tm M') := by
  refine wEnter (by decide) (Nat.le_of_ble_eq_true rfl) ?_
  intro p e s m below meth c ls cx hinit hl hsz hw
  exact b_X8_value cx hi h (fun pc ls H locs hd hw => w_iret (post := fun (r9 : Int32) (u : Mem) => r9 = Int32.ofInt r ∧ u = tm M') (lf := fun u => (LL adr, wf G adr u)) cx.1 cx.2.1 cx.2.2.1 cx.2.2.2.2.2.2 (tm M') hw ⟨rfl, rfl⟩ hd) hl hw
def f_X8_count (M : MI) : Option (Int × MI) :=
  Option.bind (opI M 36 3 (0)) fun v1 =>
  some (v1.2 36 2, v1)
set_option maxRecDepth 100000 in
set_option maxHeartbeats 8000000 in
theorem b_X8_count {p : Program} {l : Launch} {e : Env} {s : State} {m : MethodId} {args : Array Value} {below : List Frame} {meth : Method} {c : Code} {Q : State → Prop} {G : gG} {A : Nat → Prop} {adr : Nat → Nat} (cx : cX p s m args meth c cX8_count (some .int) 1 yX8_count.cls) (hi : adi adr) {M M' : MI} {r : Int} 
    (h : f_X8_count M = some (r, M'))
    (kr : ∀ (pc : Nat) (ls : Array Slot) (H : Heap) (locs : List Loc), decode cX8_count pc = .ok (.ireturn, 1) → wH G A s.heap s (LL adr) (wf G adr (tm M')) H locs → W p l e { frames := 0, cells := 0, slots := 0, locals := 0 } s m args below meth c H locs 0 0 Q (F0 m pc ls [.int (Int32.ofInt r)]))
    {ls : Array Slot} {H : Heap} {locs : List Loc} (hl : lv_has ls 1 [(0, .ref (adr 36))]) (hw : wH G A s.heap s (LL adr) (wf G adr (tm M)) H locs) : W p l e { frames := 0, cells := 0, slots := 0, locals := 0 } s m args below meth c H locs 0 0 Q (F0 m 0 ls []) := by
  obtain ⟨hx, hb, -, -, hown, hts, -⟩ := id cx
  have hown : s.vm.findClass RX8 = some m.cls := hown
  unfold f_X8_count at h
  refine lv_aload_n hx hb dX8_count_0 rfl (lv_at hl 0 rfl) ?_
  refine lv_iconst (v := Int32.ofInt (0)) hx hb dX8_count_1 rfl ?_
  replace h := bnd h
  obtain ⟨v1, e1, h⟩ := h
  refine o_putI (k := 36) (C := RX8) (T := TX8) (N := 18) (ref := "LiftFactorsModel") hx hb hi hts inX8_u tyX8 tyX8_ok nmX8 hown hw (by decide) rfl 3 (by decide) q_171 rfl rfl e1 (by decide +kernel) rfl dX8_count_2 (fun H locs hw => ?_)
  refine lv_aload_n hx hb dX8_count_5 rfl (lv_at hl 0 rfl) ?_
  refine m_get (k := 36) (C := RX8) (T := TX8) (N := 18) (ref := "LiftFactorsModel") (v := .int (Int32.ofInt (v1.2 36 2))) hx hb hi hts inX8_u hown hw (by decide) rfl 2 (by decide) q_16 rfl rfl dX8_count_6 ?_
  cases h
  exact kr _ _ _ _ dX8_count_9 hw
theorem cc_X8_count {l : Launch} {G : gG} {adr : Nat → Nat} {sz : Nat} (hi : adi adr) {M M' : MI} {r : Int} (h : f_X8_count M = some (r, M')) : mI l yX8_count cX8_count 1 (some .int) { frames := 0, cells := 0, slots := 0, locals := 0 } G adr [.ref (adr 36)] (tm M) sz (Int32.ofInt r) (tm M') := by
  refine wEnter (by decide) (Nat.le_of_ble_eq_true rfl) ?_
  intro p e s m below meth c ls cx hinit hl hsz hw
  exact b_X8_count cx hi h (fun pc ls H locs hd hw => w_iret (post := fun (r9 : Int32) (u : Mem) => r9 = Int32.ofInt r ∧ u = tm M') (lf := fun u => (LL adr, wf G adr u)) cx.1 cx.2.1 cx.2.2.1 cx.2.2.2.2.2.2 (tm M') hw ⟨rfl, rfl⟩ hd) hl hw
def f_X8_thrown (M : MI) : Option Int :=
  some (M.2 36 3)
set_option maxRecDepth 100000 in
set_option maxHeartbeats 8000000 in
theorem b_X8_thrown {p : Program} {l : Launch} {e : Env} {s : State} {m : MethodId} {args : Array Value} {below : List Frame} {meth : Method} {c : Code} {Q : State → Prop} {G : gG} {A : Nat → Prop} {adr : Nat → Nat} (cx : cX p s m args meth c cX8_thrown (some .int) 1 yX8_thrown.cls) (hi : adi adr) {M : MI} {r : Int} 
    (h : f_X8_thrown M = some r)
    (kr : ∀ (pc : Nat) (ls : Array Slot) (H : Heap) (locs : List Loc), decode cX8_thrown pc = .ok (.ireturn, 1) → wH G A s.heap s (LL adr) (wf G adr (tm M)) H locs → W p l e { frames := 0, cells := 0, slots := 0, locals := 0 } s m args below meth c H locs 0 0 Q (F0 m pc ls [.int (Int32.ofInt r)]))
    {ls : Array Slot} {H : Heap} {locs : List Loc} (hl : lv_has ls 1 [(0, .ref (adr 36))]) (hw : wH G A s.heap s (LL adr) (wf G adr (tm M)) H locs) : W p l e { frames := 0, cells := 0, slots := 0, locals := 0 } s m args below meth c H locs 0 0 Q (F0 m 0 ls []) := by
  obtain ⟨hx, hb, -, -, hown, hts, -⟩ := id cx
  have hown : s.vm.findClass RX8 = some m.cls := hown
  unfold f_X8_thrown at h
  refine lv_aload_n hx hb dX8_thrown_0 rfl (lv_at hl 0 rfl) ?_
  refine m_get (k := 36) (C := RX8) (T := TX8) (N := 18) (ref := "LiftFactorsModel") (v := .int (Int32.ofInt (M.2 36 3))) hx hb hi hts inX8_u hown hw (by decide) rfl 3 (by decide) q_171 rfl rfl dX8_thrown_1 ?_
  cases h
  exact kr _ _ _ _ dX8_thrown_4 hw
theorem cc_X8_thrown {l : Launch} {G : gG} {adr : Nat → Nat} {sz : Nat} (hi : adi adr) {M : MI} {r : Int} (h : f_X8_thrown M = some r) : mI l yX8_thrown cX8_thrown 1 (some .int) { frames := 0, cells := 0, slots := 0, locals := 0 } G adr [.ref (adr 36)] (tm M) sz (Int32.ofInt r) (tm M) := by
  refine wEnter (by decide) (Nat.le_of_ble_eq_true rfl) ?_
  intro p e s m below meth c ls cx hinit hl hsz hw
  exact b_X8_thrown cx hi h (fun pc ls H locs hd hw => w_iret (post := fun (r9 : Int32) (u : Mem) => r9 = Int32.ofInt r ∧ u = tm M) (lf := fun u => (LL adr, wf G adr u)) cx.1 cx.2.1 cx.2.2.1 cx.2.2.2.2.2.2 (tm M) hw ⟨rfl, rfl⟩ hd) hl hw
