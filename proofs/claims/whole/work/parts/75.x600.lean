theorem q_316 : Cond.fieldLink RX6 33 "LiftFactors$Splitter" "base" "[J" ∈ uU := uU_in (by decide +kernel) (by decide +kernel)
theorem q_317 : Cond.methodLink RX6 72 yJ7_fill_d0a16 ∈ uU := uU_in (by decide +kernel) (by decide +kernel)
theorem q_318 : Cond.fieldLink RX6 40 "LiftFactors$Splitter" "field" "LLiftFactors$Field;" ∈ uU := uU_in (by decide +kernel) (by decide +kernel)
theorem q_319 : Cond.methodLink RX6 75 yX3_divide ∈ uU := uU_in (by decide +kernel) (by decide +kernel)
theorem q_320 : Cond.fieldLink RX6 81 "LiftFactors$Field" "prime" "J" ∈ uU := uU_in (by decide +kernel) (by decide +kernel)
theorem q_321 : Cond.fieldLink RX6 37 "LiftFactors$Splitter" "trial" "[J" ∈ uU := uU_in (by decide +kernel) (by decide +kernel)
theorem q_322 : Cond.methodLink RX6 85 yX3_raise ∈ uU := uU_in (by decide +kernel) (by decide +kernel)
theorem q_323 : Cond.instanceMethod yX3_raise ∈ uU := uU_in (by decide +kernel) (by decide +kernel)
theorem q_324 : Cond.selects yX3_raise.cls yX3_raise yX3_raise ∈ uU := uU_in (by decide +kernel) (by decide +kernel)
theorem q_325 : Cond.initialized yX3_raise.cls ∈ uU := uU_in (by decide +kernel) (by decide +kernel)
theorem q_326 : Cond.code yX3_raise cX3_raise 10 none ∈ uU := uU_in (by decide +kernel) (by decide +kernel)
theorem q_327 : Cond.fieldLink RX6 23 "LiftFactors$Splitter" "matrix" "[[J" ∈ uU := uU_in (by decide +kernel) (by decide +kernel)
theorem q_328 : Cond.methodLink RX6 89 yX5_copy ∈ uU := uU_in (by decide +kernel) (by decide +kernel)
theorem q_329 : Cond.methodLink RX6 92 yJ9_floorMod_f86c9 ∈ uU := uU_in (by decide +kernel) (by decide +kernel)
theorem q_330 : Cond.methodLink RX6 98 yX3_multiply ∈ uU := uU_in (by decide +kernel) (by decide +kernel)
def l_X6_fillMatrix_68 (n : Nat) (a0 : Nat) (a1 : Int) : MI × Int → Option ((MI) ⊕ (MI × Int)) := fun (M7, v8) =>
  Option.bind (gI v8 a1) fun _ =>
  if a1 ≤ v8 then
    some (.inl M7)
  else
    Option.bind (odA 21 v8) fun v9 =>
    Option.bind (f_X5_copy 24 v9 M7) fun v10 =>
    Option.bind (odA 21 v8) fun v11 =>
    Option.bind (odA 21 v8) fun v12 =>
    Option.bind (odJ v10 v12 v8) fun v13 =>
    Option.bind (f_J9_floorMod_f86c9 (v13 - (1)) (v10.1 1 0)) fun v14 =>
    Option.bind (osJ v10 v11 v8 v14) fun v15 =>
    Option.bind (f_X3_multiply n 24 25 a0 a1 24 v15) fun v16 =>
    some (.inr (v16, v8 + 1))
def f_X6_fillMatrix (n : Nat) (a0 : Nat) (a1 : Int) (M : MI) : Option MI :=
  Option.bind (f_J7_fill_d0a16 n 24 (0) M) fun v1 =>
  Option.bind (osJ v1 24 (1) (1)) fun v2 =>
  Option.bind (f_X3_divide n 24 a0 v2) fun v3 =>
  Option.bind (f_X3_raise n 24 (v3.1 1 0) a0 a1 25 v3) fun v4 =>
  Option.bind (f_J7_fill_d0a16 n 24 (0) v4) fun v5 =>
  Option.bind (osJ v5 24 (0) (1)) fun v6 =>
  Option.bind (lpF (l_X6_fillMatrix_68 n a0 a1) n (v6, (0))) fun M18 =>
  some M18
set_option maxRecDepth 100000 in
set_option maxHeartbeats 8000000 in
theorem b_X6_fillMatrix {p : Program} {l : Launch} {e : Env} {s : State} {m : MethodId} {args : Array Value} {below : List Frame} {meth : Method} {c : Code} {Q : State → Prop} {G : gG} {A : Nat → Prop} {adr : Nat → Nat} (cx : cX p s m args meth c cX6_fillMatrix none 4 yX6_fillMatrix.cls) (hi : adi adr) {n : Nat} {a0 : Nat} {a1 : Int} {M M' : MI} 
    (h : f_X6_fillMatrix n a0 a1 M = some M')
    (kr : ∀ (pc : Nat) (ls : Array Slot) (H : Heap) (locs : List Loc), decode cX6_fillMatrix pc = .ok (.return_, 1) → wH G A s.heap s (LL adr) (wf G adr (tm M')) H locs → W p l e { frames := 3, cells := 0, slots := 0, locals := 83 } s m args below meth c H locs 0 0 Q (F0 m pc ls []))
    {ls : Array Slot} {H : Heap} {locs : List Loc} (hl : lv_has ls 4 [(0, .ref (adr 4)), (1, .ref (adr a0)), (2, .int (Int32.ofInt a1))]) (hw : wH G A s.heap s (LL adr) (wf G adr (tm M)) H locs) : W p l e { frames := 3, cells := 0, slots := 0, locals := 83 } s m args below meth c H locs 0 0 Q (F0 m 0 ls []) := by
  obtain ⟨hx, hb, -, -, hown, hts, -⟩ := id cx
  have hown : s.vm.findClass RX6 = some m.cls := hown
  unfold f_X6_fillMatrix at h
  refine lv_aload_n hx hb dX6_fillMatrix_0 rfl (lv_at hl 0 rfl) ?_
  refine m_get (k := 4) (C := RX6) (T := TX6) (N := 9) (ref := "LiftFactors$Splitter") (v := .ref (adr 24)) hx hb hi hts inX6_u hown hw (by decide) rfl 7 (by decide) q_316 rfl rfl dX6_fillMatrix_1 ?_
  refine lv_lconst (v := Int64.ofInt (0)) hx hb dX6_fillMatrix_4 (by decide) ?_
  replace h := bnd h
  obtain ⟨v1, e1, h⟩ := h
  refine m_callSv (As := [.ref (adr 24), .long (Int64.ofInt (0))]) (rest := []) cx.fix hw (cc_J7_fill_d0a16 (l := l) (G := G) (sz := H.size) hi e1) (w_cS 2 hts q_317 q_265 q_266 q_267 rfl rfl (by decide) (by decide)) hl.1 rfl (lv_room (Nat.le_of_ble_eq_true rfl)) dX6_fillMatrix_5 (fun H locs hw => ?_)
  refine lv_aload_n hx hb dX6_fillMatrix_8 rfl (lv_at hl 0 rfl) ?_
  refine m_get (k := 4) (C := RX6) (T := TX6) (N := 9) (ref := "LiftFactors$Splitter") (v := .ref (adr 24)) hx hb hi hts inX6_u hown hw (by decide) rfl 7 (by decide) q_316 rfl rfl dX6_fillMatrix_9 ?_
  refine lv_iconst (v := Int32.ofInt (1)) hx hb dX6_fillMatrix_12 rfl ?_
  refine lv_lconst (v := Int64.ofInt (1)) hx hb dX6_fillMatrix_13 (by decide) ?_
  replace h := bnd h
  obtain ⟨v2, e2, h⟩ := h
  refine o_last hx hb hi hw e2 dX6_fillMatrix_14 (fun H locs hw => ?_)
  refine lv_aload_n hx hb dX6_fillMatrix_15 rfl (lv_at hl 0 rfl) ?_
  refine m_get (k := 4) (C := RX6) (T := TX6) (N := 9) (ref := "LiftFactors$Splitter") (v := .ref (adr 1)) hx hb hi hts inX6_u hown hw (by decide) rfl 3 (by decide) q_318 rfl rfl dX6_fillMatrix_16 ?_
  refine lv_aload_n hx hb dX6_fillMatrix_19 rfl (lv_at hl 0 rfl) ?_
  refine m_get (k := 4) (C := RX6) (T := TX6) (N := 9) (ref := "LiftFactors$Splitter") (v := .ref (adr 24)) hx hb hi hts inX6_u hown hw (by decide) rfl 7 (by decide) q_316 rfl rfl dX6_fillMatrix_20 ?_
  refine lv_aload_n hx hb dX6_fillMatrix_23 rfl (lv_at hl 1 rfl) ?_
  replace h := bnd h
  obtain ⟨v3, e3, h⟩ := h
  refine m_callVv (k := 1) (As := [.ref (adr 24), .ref (adr a0)]) (rest := []) cx.fix hi hw (cc_X3_divide (l := l) (G := G) (sz := H.size) hi e3) (by decide) rfl rfl (w_cV 2 hts q_319 q_296 q_297 q_298 q_299 rfl rfl (by decide) (by decide)) hl.1 rfl (lv_room (Nat.le_of_ble_eq_true rfl)) dX6_fillMatrix_24 (fun H locs hw => ?_)
  refine lv_aload_n hx hb dX6_fillMatrix_27 rfl (lv_at hl 0 rfl) ?_
  refine m_get (k := 4) (C := RX6) (T := TX6) (N := 9) (ref := "LiftFactors$Splitter") (v := .ref (adr 1)) hx hb hi hts inX6_u hown hw (by decide) rfl 3 (by decide) q_318 rfl rfl dX6_fillMatrix_28 ?_
  refine lv_aload_n hx hb dX6_fillMatrix_31 rfl (lv_at hl 0 rfl) ?_
  refine m_get (k := 4) (C := RX6) (T := TX6) (N := 9) (ref := "LiftFactors$Splitter") (v := .ref (adr 24)) hx hb hi hts inX6_u hown hw (by decide) rfl 7 (by decide) q_316 rfl rfl dX6_fillMatrix_32 ?_
  refine lv_aload_n hx hb dX6_fillMatrix_35 rfl (lv_at hl 0 rfl) ?_
  refine m_get (k := 4) (C := RX6) (T := TX6) (N := 9) (ref := "LiftFactors$Splitter") (v := .ref (adr 1)) hx hb hi hts inX6_u hown hw (by decide) rfl 3 (by decide) q_318 rfl rfl dX6_fillMatrix_36 ?_
  refine m_get (k := 1) (C := RX3) (T := TX3) (N := 5) (ref := "LiftFactors$Field") (v := .long (Int64.ofInt (v3.1 1 0))) hx hb hi hts inX3_u hown hw (by decide) rfl 0 (by decide) q_320 rfl rfl dX6_fillMatrix_39 ?_
  refine lv_aload_n hx hb dX6_fillMatrix_42 rfl (lv_at hl 1 rfl) ?_
  refine lv_iload_n hx hb dX6_fillMatrix_43 rfl (lv_at hl 2 rfl) ?_
  refine lv_aload_n hx hb dX6_fillMatrix_44 rfl (lv_at hl 0 rfl) ?_
  refine m_get (k := 4) (C := RX6) (T := TX6) (N := 9) (ref := "LiftFactors$Splitter") (v := .ref (adr 25)) hx hb hi hts inX6_u hown hw (by decide) rfl 8 (by decide) q_321 rfl rfl dX6_fillMatrix_45 ?_
  replace h := bnd h
  obtain ⟨v4, e4, h⟩ := h
  refine m_callVv (k := 1) (As := [.ref (adr 24), .long (Int64.ofInt (v3.1 1 0)), .ref (adr a0), .int (Int32.ofInt a1), .ref (adr 25)]) (rest := []) cx.fix hi hw (cc_X3_raise (l := l) (G := G) (sz := H.size) hi e4) (by decide) rfl rfl (w_cV 5 hts q_322 q_323 q_324 q_325 q_326 rfl rfl (by decide) (by decide)) hl.1 rfl (lv_room (Nat.le_of_ble_eq_true rfl)) dX6_fillMatrix_48 (fun H locs hw => ?_)
  refine lv_aload_n hx hb dX6_fillMatrix_51 rfl (lv_at hl 0 rfl) ?_
  refine m_get (k := 4) (C := RX6) (T := TX6) (N := 9) (ref := "LiftFactors$Splitter") (v := .ref (adr 24)) hx hb hi hts inX6_u hown hw (by decide) rfl 7 (by decide) q_316 rfl rfl dX6_fillMatrix_52 ?_
  refine lv_lconst (v := Int64.ofInt (0)) hx hb dX6_fillMatrix_55 (by decide) ?_
  replace h := bnd h
  obtain ⟨v5, e5, h⟩ := h
  refine m_callSv (As := [.ref (adr 24), .long (Int64.ofInt (0))]) (rest := []) cx.fix hw (cc_J7_fill_d0a16 (l := l) (G := G) (sz := H.size) hi e5) (w_cS 2 hts q_317 q_265 q_266 q_267 rfl rfl (by decide) (by decide)) hl.1 rfl (lv_room (Nat.le_of_ble_eq_true rfl)) dX6_fillMatrix_56 (fun H locs hw => ?_)
  refine lv_aload_n hx hb dX6_fillMatrix_59 rfl (lv_at hl 0 rfl) ?_
  refine m_get (k := 4) (C := RX6) (T := TX6) (N := 9) (ref := "LiftFactors$Splitter") (v := .ref (adr 24)) hx hb hi hts inX6_u hown hw (by decide) rfl 7 (by decide) q_316 rfl rfl dX6_fillMatrix_60 ?_
  refine lv_iconst (v := Int32.ofInt (0)) hx hb dX6_fillMatrix_63 rfl ?_
  refine lv_lconst (v := Int64.ofInt (1)) hx hb dX6_fillMatrix_64 (by decide) ?_
  replace h := bnd h
  obtain ⟨v6, e6, h⟩ := h
  refine o_last hx hb hi hw e6 dX6_fillMatrix_65 (fun H locs hw => ?_)
  refine lv_iconst (v := Int32.ofInt (0)) hx hb dX6_fillMatrix_66 rfl ?_
  refine lv_istore_n (lv' := [(3, .int (Int32.ofInt (0))), (0, .ref (adr 4)), (1, .ref (adr a0)), (2, .int (Int32.ofInt a1))]) hx hb dX6_fillMatrix_67 rfl hl (by decide) rfl (fun ls hl => ?_)
  replace h := bnd h
  obtain ⟨M18, j17, h⟩ := h
  refine lp_W (Wst := fun (st : MI × Int) => ∀ (ls : Array Slot) (H : Heap) (locs : List Loc), lv_has ls 4 [(0, .ref (adr 4)), (1, .ref (adr a0)), (2, .int (Int32.ofInt a1)), (3, .int (Int32.ofInt st.2))] → wH G A s.heap s (LL adr) (wf G adr (tm st.1)) H locs → W p l e { frames := 3, cells := 0, slots := 0, locals := 83 } s m args below meth c H locs 0 0 Q (F0 m 68 ls [])) (fin := fun (r : MI) => ∀ (ls : Array Slot) (H : Heap) (locs : List Loc), lv_has ls 4 [] → wH G A s.heap s (LL adr) (wf G adr (tm r)) H locs → W p l e { frames := 3, cells := 0, slots := 0, locals := 83 } s m args below meth c H locs 0 0 Q (F0 m 141 ls [])) ?_ n _ _ j17 ?_ _ _ _ (lv_sub hl [1, 2, 3, 0] rfl) hw
  · clear h j17 hw hl
    intro ⟨M7, v8⟩ x h k1 k2 ls H locs hl hw
    (try dsimp only at k1 k2 hl hw ⊢)
    unfold l_X6_fillMatrix_68 at h
    (try dsimp only at h)
    refine lv_iload_n hx hb dX6_fillMatrix_68 rfl (lv_at hl 3 rfl) ?_
    refine lv_iload_n hx hb dX6_fillMatrix_69 rfl (lv_at hl 2 rfl) ?_
    replace h := bnd h
    obtain ⟨_, hg, h⟩ := h
    refine o_icmp_ge (tgt := 141) hx hb hg dX6_fillMatrix_70 (by decide) (fun hc => ?_) (fun hc => ?_)
    · replace h := ite_t hc h
      cases h
      exact k1 _ rfl _ _ _ (lv_sub hl [] rfl) hw
    · replace h := ite_f hc h
      refine lv_aload_n hx hb dX6_fillMatrix_73 rfl (lv_at hl 0 rfl) ?_
      refine m_get (k := 4) (C := RX6) (T := TX6) (N := 9) (ref := "LiftFactors$Splitter") (v := .ref (adr 24)) hx hb hi hts inX6_u hown hw (by decide) rfl 7 (by decide) q_316 rfl rfl dX6_fillMatrix_74 ?_
      refine lv_aload_n hx hb dX6_fillMatrix_77 rfl (lv_at hl 0 rfl) ?_
      refine m_get (k := 4) (C := RX6) (T := TX6) (N := 9) (ref := "LiftFactors$Splitter") (v := .ref (adr 21)) hx hb hi hts inX6_u hown hw (by decide) rfl 4 (by decide) q_327 rfl rfl dX6_fillMatrix_78 ?_
      refine lv_iload_n hx hb dX6_fillMatrix_81 rfl (lv_at hl 3 rfl) ?_
      replace h := bnd h
      obtain ⟨v9, e9, h⟩ := h
      refine o_aald hx hb hi hw e9 dX6_fillMatrix_82 ?_
      replace h := bnd h
      obtain ⟨v10, e10, h⟩ := h
      refine m_callSv (As := [.ref (adr 24), .ref (adr v9)]) (rest := []) cx.fix hw (cc_X5_copy (l := l) (G := G) (sz := H.size) hi e10) (w_cS 2 hts q_328 q_260 q_261 q_262 rfl rfl (by decide) (by decide)) hl.1 rfl (lv_room (Nat.le_of_ble_eq_true rfl)) dX6_fillMatrix_83 (fun H locs hw => ?_)
      refine lv_aload_n hx hb dX6_fillMatrix_86 rfl (lv_at hl 0 rfl) ?_
      refine m_get (k := 4) (C := RX6) (T := TX6) (N := 9) (ref := "LiftFactors$Splitter") (v := .ref (adr 21)) hx hb hi hts inX6_u hown hw (by decide) rfl 4 (by decide) q_327 rfl rfl dX6_fillMatrix_87 ?_
      refine lv_iload_n hx hb dX6_fillMatrix_90 rfl (lv_at hl 3 rfl) ?_
      replace h := bnd h
      obtain ⟨v11, e11, h⟩ := h
      refine o_aald hx hb hi hw e11 dX6_fillMatrix_91 ?_
      refine lv_iload_n hx hb dX6_fillMatrix_92 rfl (lv_at hl 3 rfl) ?_
      refine lv_aload_n hx hb dX6_fillMatrix_93 rfl (lv_at hl 0 rfl) ?_
      refine m_get (k := 4) (C := RX6) (T := TX6) (N := 9) (ref := "LiftFactors$Splitter") (v := .ref (adr 21)) hx hb hi hts inX6_u hown hw (by decide) rfl 4 (by decide) q_327 rfl rfl dX6_fillMatrix_94 ?_
      refine lv_iload_n hx hb dX6_fillMatrix_97 rfl (lv_at hl 3 rfl) ?_
      replace h := bnd h
      obtain ⟨v12, e12, h⟩ := h
      refine o_aald hx hb hi hw e12 dX6_fillMatrix_98 ?_
      refine lv_iload_n hx hb dX6_fillMatrix_99 rfl (lv_at hl 3 rfl) ?_
      replace h := bnd h
      obtain ⟨v13, e13, h⟩ := h
      refine o_lald hx hb hi hw e13 dX6_fillMatrix_100 ?_
      refine lv_lconst (v := Int64.ofInt (1)) hx hb dX6_fillMatrix_101 (by decide) ?_
      refine o_lsub hx hb dX6_fillMatrix_102 ?_
      refine lv_aload_n hx hb dX6_fillMatrix_103 rfl (lv_at hl 0 rfl) ?_
      refine m_get (k := 4) (C := RX6) (T := TX6) (N := 9) (ref := "LiftFactors$Splitter") (v := .ref (adr 1)) hx hb hi hts inX6_u hown hw (by decide) rfl 3 (by decide) q_318 rfl rfl dX6_fillMatrix_104 ?_
      refine m_get (k := 1) (C := RX3) (T := TX3) (N := 5) (ref := "LiftFactors$Field") (v := .long (Int64.ofInt (v10.1 1 0))) hx hb hi hts inX3_u hown hw (by decide) rfl 0 (by decide) q_320 rfl rfl dX6_fillMatrix_107 ?_
      replace h := bnd h
      obtain ⟨v14, e14, h⟩ := h
      refine m_callSl (As := [.long (Int64.ofInt (v13 - (1))), .long (Int64.ofInt (v10.1 1 0))]) (rest := [.int (Int32.ofInt v8), .ref (adr v11)]) cx.fix hw (cc_J9_floorMod_f86c9 (l := l) (G := G) (sz := H.size) (M := v10) hi e14) (w_cS 2 hts q_329 q_277 q_278 q_279 rfl rfl (by decide) (by decide)) hl.1 rfl (lv_room (Nat.le_of_ble_eq_true rfl)) dX6_fillMatrix_110 (fun H locs hw => ?_)
      replace h := bnd h
      obtain ⟨v15, e15, h⟩ := h
      refine o_last hx hb hi hw e15 dX6_fillMatrix_113 (fun H locs hw => ?_)
      refine lv_aload_n hx hb dX6_fillMatrix_114 rfl (lv_at hl 0 rfl) ?_
      refine m_get (k := 4) (C := RX6) (T := TX6) (N := 9) (ref := "LiftFactors$Splitter") (v := .ref (adr 1)) hx hb hi hts inX6_u hown hw (by decide) rfl 3 (by decide) q_318 rfl rfl dX6_fillMatrix_115 ?_
      refine lv_aload_n hx hb dX6_fillMatrix_118 rfl (lv_at hl 0 rfl) ?_
      refine m_get (k := 4) (C := RX6) (T := TX6) (N := 9) (ref := "LiftFactors$Splitter") (v := .ref (adr 24)) hx hb hi hts inX6_u hown hw (by decide) rfl 7 (by decide) q_316 rfl rfl dX6_fillMatrix_119 ?_
      refine lv_aload_n hx hb dX6_fillMatrix_122 rfl (lv_at hl 0 rfl) ?_
      refine m_get (k := 4) (C := RX6) (T := TX6) (N := 9) (ref := "LiftFactors$Splitter") (v := .ref (adr 25)) hx hb hi hts inX6_u hown hw (by decide) rfl 8 (by decide) q_321 rfl rfl dX6_fillMatrix_123 ?_
      refine lv_aload_n hx hb dX6_fillMatrix_126 rfl (lv_at hl 1 rfl) ?_
      refine lv_iload_n hx hb dX6_fillMatrix_127 rfl (lv_at hl 2 rfl) ?_
      refine lv_aload_n hx hb dX6_fillMatrix_128 rfl (lv_at hl 0 rfl) ?_
      refine m_get (k := 4) (C := RX6) (T := TX6) (N := 9) (ref := "LiftFactors$Splitter") (v := .ref (adr 24)) hx hb hi hts inX6_u hown hw (by decide) rfl 7 (by decide) q_316 rfl rfl dX6_fillMatrix_129 ?_
      replace h := bnd h
      obtain ⟨v16, e16, h⟩ := h
      refine m_callVv (k := 1) (As := [.ref (adr 24), .ref (adr 25), .ref (adr a0), .int (Int32.ofInt a1), .ref (adr 24)]) (rest := []) cx.fix hi hw (cc_X3_multiply (l := l) (G := G) (sz := H.size) hi e16) (by decide) rfl rfl (w_cV 5 hts q_330 q_307 q_308 q_309 q_310 rfl rfl (by decide) (by decide)) hl.1 rfl (lv_room (Nat.le_of_ble_eq_true rfl)) dX6_fillMatrix_132 (fun H locs hw => ?_)
      refine lv_iinc (v := Int32.ofInt (v8 + 1)) (lv' := [(3, .int (Int32.ofInt (v8 + 1))), (0, .ref (adr 4)), (1, .ref (adr a0)), (2, .int (Int32.ofInt a1))]) hx hb dX6_fillMatrix_135 hl (k := 3) rfl (inc_o _ _) (by decide) rfl (fun ls hl => ?_)
      refine lv_goto (tgt := 68) hx hb dX6_fillMatrix_138 (by decide) ?_
      cases h
      exact k2 _ rfl _ _ _ (lv_sub hl [1, 2, 3, 0] rfl) hw
  · clear hw hl
    intro ls H locs hl hw
    (try dsimp only at hl hw ⊢)
    cases h
    exact kr _ _ _ _ dX6_fillMatrix_141 hw
theorem cc_X6_fillMatrix {l : Launch} {G : gG} {adr : Nat → Nat} {sz : Nat} (hi : adi adr) {n : Nat} {a0 : Nat} {a1 : Int} {M M' : MI} (h : f_X6_fillMatrix n a0 a1 M = some M') : mV l yX6_fillMatrix cX6_fillMatrix 4 none { frames := 3, cells := 0, slots := 0, locals := 83 } G adr [.ref (adr 4), .ref (adr a0), .int (Int32.ofInt a1)] (tm M) sz (tm M') := by
  refine wEnter (by decide) (Nat.le_of_ble_eq_true rfl) ?_
  intro p e s m below meth c ls cx hinit hl hsz hw
  exact b_X6_fillMatrix cx hi h (fun pc ls H locs hd hw => w_vret (post := fun (u : Mem) => u = tm M') (lf := fun u => (LL adr, wf G adr u)) cx.1 cx.2.1 cx.2.2.1 cx.2.2.2.2.2.2 (tm M') hw rfl hd) hl hw
theorem q_331 : Cond.fieldLink RX6 29 "LiftFactors$Splitter" "pivotRows" "[I" ∈ uU := uU_in (by decide +kernel) (by decide +kernel)
def l_X6_findPivot_2 (a0 : Int) (a1 : Int) (M : MI) : Int → Option (((Int) ⊕ (Unit)) ⊕ (Int)) := fun v1 =>
  Option.bind (gI v1 a1) fun _ =>
  if a1 ≤ v1 then
    some (.inl (.inr ()))
  else
    Option.bind (odI M 23 v1) fun v2 =>
    Option.bind (gI v2 0) fun _ =>
    if 0 ≤ v2 then
      some (.inr (v1 + 1))
    else
      Option.bind (odA 21 a0) fun v3 =>
      Option.bind (odJ M v3 v1) fun v4 =>
      Option.bind (gJ v4 (0)) fun _ =>
      if v4 = (0) then
        some (.inr (v1 + 1))
      else
        some (.inl (.inl v1))
def f_X6_findPivot (n : Nat) (a0 : Int) (a1 : Int) (M : MI) : Option Int :=
  Option.bind (lpF (l_X6_findPivot_2 a0 a1 M) n (0)) fun r => match r with
  | .inl o => some o
  | .inr () =>
    some (-1)
set_option maxRecDepth 100000 in
set_option maxHeartbeats 8000000 in
theorem b_X6_findPivot {p : Program} {l : Launch} {e : Env} {s : State} {m : MethodId} {args : Array Value} {below : List Frame} {meth : Method} {c : Code} {Q : State → Prop} {G : gG} {A : Nat → Prop} {adr : Nat → Nat} (cx : cX p s m args meth c cX6_findPivot (some .int) 4 yX6_findPivot.cls) (hi : adi adr) {n : Nat} {a0 : Int} {a1 : Int} {M : MI} {r : Int} 
    (h : f_X6_findPivot n a0 a1 M = some r)
    (kr : ∀ (pc : Nat) (ls : Array Slot) (H : Heap) (locs : List Loc), decode cX6_findPivot pc = .ok (.ireturn, 1) → wH G A s.heap s (LL adr) (wf G adr (tm M)) H locs → W p l e { frames := 0, cells := 0, slots := 0, locals := 0 } s m args below meth c H locs 0 0 Q (F0 m pc ls [.int (Int32.ofInt r)]))
    {ls : Array Slot} {H : Heap} {locs : List Loc} (hl : lv_has ls 4 [(0, .ref (adr 4)), (1, .int (Int32.ofInt a0)), (2, .int (Int32.ofInt a1))]) (hw : wH G A s.heap s (LL adr) (wf G adr (tm M)) H locs) : W p l e { frames := 0, cells := 0, slots := 0, locals := 0 } s m args below meth c H locs 0 0 Q (F0 m 0 ls []) := by
  obtain ⟨hx, hb, -, -, hown, hts, -⟩ := id cx
  have hown : s.vm.findClass RX6 = some m.cls := hown
  unfold f_X6_findPivot at h
  refine lv_iconst (v := Int32.ofInt (0)) hx hb dX6_findPivot_0 rfl ?_
  refine lv_istore_n (lv' := [(3, .int (Int32.ofInt (0))), (0, .ref (adr 4)), (1, .int (Int32.ofInt a0)), (2, .int (Int32.ofInt a1))]) hx hb dX6_findPivot_1 rfl hl (by decide) rfl (fun ls hl => ?_)
  replace h := bnd h
  obtain ⟨o6, j5, h⟩ := h
  refine lp_W (Wst := fun (st : Int) => ∀ (ls : Array Slot) (H : Heap) (locs : List Loc), lv_has ls 4 [(0, .ref (adr 4)), (1, .int (Int32.ofInt a0)), (2, .int (Int32.ofInt a1)), (3, .int (Int32.ofInt st))] → wH G A s.heap s (LL adr) (wf G adr (tm M)) H locs → W p l e { frames := 0, cells := 0, slots := 0, locals := 0 } s m args below meth c H locs 0 0 Q (F0 m 2 ls [])) (fin := fun (r : (Int) ⊕ (Unit)) => match r with
      | .inl o => ∀ (pc : Nat) (ls : Array Slot) (H : Heap) (locs : List Loc), decode cX6_findPivot pc = .ok (.ireturn, 1) → wH G A s.heap s (LL adr) (wf G adr (tm M)) H locs → W p l e { frames := 0, cells := 0, slots := 0, locals := 0 } s m args below meth c H locs 0 0 Q (F0 m pc ls [.int (Int32.ofInt o)])
      | .inr q => ∀ (ls : Array Slot) (H : Heap) (locs : List Loc), lv_has ls 4 [] → wH G A s.heap s (LL adr) (wf G adr (tm M)) H locs → W p l e { frames := 0, cells := 0, slots := 0, locals := 0 } s m args below meth c H locs 0 0 Q (F0 m 37 ls [])) ?_ n _ _ j5 ?_ _ _ _ (lv_sub hl [1, 2, 3, 0] rfl) hw
  · clear h j5 hw hl
    intro v1 x h k1 k2 ls H locs hl hw
    (try dsimp only at k2 hl hw ⊢)
    unfold l_X6_findPivot_2 at h
    (try dsimp only at h)
    refine lv_iload_n hx hb dX6_findPivot_2 rfl (lv_at hl 3 rfl) ?_
    refine lv_iload_n hx hb dX6_findPivot_3 rfl (lv_at hl 2 rfl) ?_
    replace h := bnd h
    obtain ⟨_, hg, h⟩ := h
    refine o_icmp_ge (tgt := 37) hx hb hg dX6_findPivot_4 (by decide) (fun hc => ?_) (fun hc => ?_)
    · replace h := ite_t hc h
      cases h
      exact k1 _ rfl _ _ _ (lv_sub hl [] rfl) hw
    · replace h := ite_f hc h
      refine lv_aload_n hx hb dX6_findPivot_7 rfl (lv_at hl 0 rfl) ?_
      refine m_get (k := 4) (C := RX6) (T := TX6) (N := 9) (ref := "LiftFactors$Splitter") (v := .ref (adr 23)) hx hb hi hts inX6_u hown hw (by decide) rfl 6 (by decide) q_331 rfl rfl dX6_findPivot_8 ?_
      refine lv_iload_n hx hb dX6_findPivot_11 rfl (lv_at hl 3 rfl) ?_
      replace h := bnd h
      obtain ⟨v2, e2, h⟩ := h
      refine o_iald hx hb hi hw e2 dX6_findPivot_12 ?_
      replace h := bnd h
      obtain ⟨_, hg, h⟩ := h
      refine o_if_ge (tgt := 31) hx hb hg dX6_findPivot_13 (by decide) (fun hc => ?_) (fun hc => ?_)
      · replace h := ite_t hc h
        refine lv_iinc (v := Int32.ofInt (v1 + 1)) (lv' := [(3, .int (Int32.ofInt (v1 + 1))), (0, .ref (adr 4)), (1, .int (Int32.ofInt a0)), (2, .int (Int32.ofInt a1))]) hx hb dX6_findPivot_31 hl (k := 3) rfl (inc_o _ _) (by decide) rfl (fun ls hl => ?_)
        refine lv_goto (tgt := 2) hx hb dX6_findPivot_34 (by decide) ?_
        cases h
        exact k2 _ rfl _ _ _ (lv_sub hl [1, 2, 3, 0] rfl) hw
      · replace h := ite_f hc h
        refine lv_aload_n hx hb dX6_findPivot_16 rfl (lv_at hl 0 rfl) ?_
        refine m_get (k := 4) (C := RX6) (T := TX6) (N := 9) (ref := "LiftFactors$Splitter") (v := .ref (adr 21)) hx hb hi hts inX6_u hown hw (by decide) rfl 4 (by decide) q_327 rfl rfl dX6_findPivot_17 ?_
        refine lv_iload_n hx hb dX6_findPivot_20 rfl (lv_at hl 1 rfl) ?_
        replace h := bnd h
        obtain ⟨v3, e3, h⟩ := h
        refine o_aald hx hb hi hw e3 dX6_findPivot_21 ?_
        refine lv_iload_n hx hb dX6_findPivot_22 rfl (lv_at hl 3 rfl) ?_
        replace h := bnd h
        obtain ⟨v4, e4, h⟩ := h
        refine o_lald hx hb hi hw e4 dX6_findPivot_23 ?_
        refine lv_lconst (v := Int64.ofInt (0)) hx hb dX6_findPivot_24 (by decide) ?_
        replace h := bnd h
        obtain ⟨_, hg, h⟩ := h
        refine o_lcmp_eq (tgt := 31) hx hb hg dX6_findPivot_25 dX6_findPivot_26 (by decide) (fun hc => ?_) (fun hc => ?_)
        · replace h := ite_t hc h
          refine lv_iinc (v := Int32.ofInt (v1 + 1)) (lv' := [(3, .int (Int32.ofInt (v1 + 1))), (0, .ref (adr 4)), (1, .int (Int32.ofInt a0)), (2, .int (Int32.ofInt a1))]) hx hb dX6_findPivot_31 hl (k := 3) rfl (inc_o _ _) (by decide) rfl (fun ls hl => ?_)
          refine lv_goto (tgt := 2) hx hb dX6_findPivot_34 (by decide) ?_
          cases h
          exact k2 _ rfl _ _ _ (lv_sub hl [1, 2, 3, 0] rfl) hw
        · replace h := ite_f hc h
          refine lv_iload_n hx hb dX6_findPivot_29 rfl (lv_at hl 3 rfl) ?_
          cases h
          exact k1 _ rfl _ _ _ _ dX6_findPivot_30 hw
  · clear hw hl j5
    rcases o6 with o9 | _
    · cases h
      exact kr
    · intro ls H locs hl hw
      (try dsimp only at h hl hw ⊢)
      refine lv_iconst (v := Int32.ofInt (-1)) hx hb dX6_findPivot_37 rfl ?_
      cases h
      exact kr _ _ _ _ dX6_findPivot_38 hw
theorem cc_X6_findPivot {l : Launch} {G : gG} {adr : Nat → Nat} {sz : Nat} (hi : adi adr) {n : Nat} {a0 : Int} {a1 : Int} {M : MI} {r : Int} (h : f_X6_findPivot n a0 a1 M = some r) : mI l yX6_findPivot cX6_findPivot 4 (some .int) { frames := 0, cells := 0, slots := 0, locals := 0 } G adr [.ref (adr 4), .int (Int32.ofInt a0), .int (Int32.ofInt a1)] (tm M) sz (Int32.ofInt r) (tm M) := by
  refine wEnter (by decide) (Nat.le_of_ble_eq_true rfl) ?_
  intro p e s m below meth c ls cx hinit hl hsz hw
  exact b_X6_findPivot cx hi h (fun pc ls H locs hd hw => w_iret (post := fun (r9 : Int32) (u : Mem) => r9 = Int32.ofInt r ∧ u = tm M) (lf := fun u => (LL adr, wf G adr u)) cx.1 cx.2.1 cx.2.2.1 cx.2.2.2.2.2.2 (tm M) hw ⟨rfl, rfl⟩ hd) hl hw
theorem q_332 : Cond.methodLink RX6 102 yX3_inverse ∈ uU := uU_in (by decide +kernel) (by decide +kernel)
def l_X6_clearRow_32 (a1 : Int) (a2 : Int) (c6 : Int) (c7 : Int) : MI × Int → Option ((MI) ⊕ (MI × Int)) := fun (M4, v5) =>
  Option.bind (gI v5 a2) fun _ =>
  if a2 ≤ v5 then
    some (.inl M4)
  else
    Option.bind (odA 21 v5) fun v8 =>
    Option.bind (odA 21 v5) fun v9 =>
    Option.bind (odJ M4 v9 a1) fun v10 =>
    Option.bind (orJ (v10 * c7) c6) fun v11 =>
    Option.bind (osJ M4 v8 a1 v11) fun v12 =>
    some (.inr (v12, v5 + 1))
def l_X6_clearRow_91 (a1 : Int) (a2 : Int) (v16 : Int) (c17 : Int) (v19 : Int) : MI × Int → Option ((MI) ⊕ (MI × Int)) := fun (M20, v21) =>
  Option.bind (gI v21 a2) fun _ =>
  if a2 ≤ v21 then
    some (.inl M20)
  else
    Option.bind (gJ v19 (0)) fun _ =>
    if v19 = (0) then
      some (.inl M20)
    else
      Option.bind (gI v16 a1) fun _ =>
      if v16 = a1 then
        some (.inl M20)
      else
        Option.bind (odA 21 v21) fun v22 =>
        Option.bind (odA 21 v21) fun v23 =>
        Option.bind (odJ M20 v23 v16) fun v24 =>
        Option.bind (odA 21 v21) fun v25 =>
        Option.bind (odJ M20 v25 a1) fun v26 =>
        Option.bind (orJ (v24 + (v19 * v26)) c17) fun v27 =>
        Option.bind (osJ M20 v22 v16 v27) fun v28 =>
        some (.inr (v28, v21 + 1))
def l_X6_clearRow_71 (n : Nat) (a0 : Int) (a1 : Int) (a2 : Int) (c17 : Int) : MI × Int → Option ((MI) ⊕ (MI × Int)) := fun (M15, v16) =>
  Option.bind (gI v16 a2) fun _ =>
  if a2 ≤ v16 then
    some (.inl M15)
  else
    Option.bind (odA 21 a0) fun v18 =>
    Option.bind (odJ M15 v18 v16) fun v19 =>
    Option.bind (lpF (l_X6_clearRow_91 a1 a2 v16 c17 v19) n (M15, a0)) fun M30 =>
    some (.inr (M30, v16 + 1))
def f_X6_clearRow (n : Nat) (a0 : Int) (a1 : Int) (a2 : Int) (M : MI) : Option MI :=
  Option.bind (odA 21 a0) fun v1 =>
  Option.bind (odJ M v1 a1) fun v2 =>
  Option.bind (f_X3_inverse n v2 M) fun v3 =>
  Option.bind (lpF (l_X6_clearRow_32 a1 a2 (M.1 1 0) ((M.1 1 0) - v3)) n (M, a0)) fun M14 =>
  Option.bind (lpF (l_X6_clearRow_71 n a0 a1 a2 (M.1 1 0)) n (M14, (0))) fun M32 =>
  some M32
set_option maxRecDepth 100000 in
set_option maxHeartbeats 8000000 in
theorem b_X6_clearRow {p : Program} {l : Launch} {e : Env} {s : State} {m : MethodId} {args : Array Value} {below : List Frame} {meth : Method} {c : Code} {Q : State → Prop} {G : gG} {A : Nat → Prop} {adr : Nat → Nat} (cx : cX p s m args meth c cX6_clearRow none 12 yX6_clearRow.cls) (hi : adi adr) {n : Nat} {a0 : Int} {a1 : Int} {a2 : Int} {M M' : MI} 
    (h : f_X6_clearRow n a0 a1 a2 M = some M')
    (kr : ∀ (pc : Nat) (ls : Array Slot) (H : Heap) (locs : List Loc), decode cX6_clearRow pc = .ok (.return_, 1) → wH G A s.heap s (LL adr) (wf G adr (tm M')) H locs → W p l e { frames := 1, cells := 0, slots := 0, locals := 28 } s m args below meth c H locs 0 0 Q (F0 m pc ls []))
    {ls : Array Slot} {H : Heap} {locs : List Loc} (hl : lv_has ls 12 [(0, .ref (adr 4)), (1, .int (Int32.ofInt a0)), (2, .int (Int32.ofInt a1)), (3, .int (Int32.ofInt a2))]) (hw : wH G A s.heap s (LL adr) (wf G adr (tm M)) H locs) : W p l e { frames := 1, cells := 0, slots := 0, locals := 28 } s m args below meth c H locs 0 0 Q (F0 m 0 ls []) := by
  obtain ⟨hx, hb, -, -, hown, hts, -⟩ := id cx
  have hown : s.vm.findClass RX6 = some m.cls := hown
  unfold f_X6_clearRow at h
  refine lv_aload_n hx hb dX6_clearRow_0 rfl (lv_at hl 0 rfl) ?_
  refine m_get (k := 4) (C := RX6) (T := TX6) (N := 9) (ref := "LiftFactors$Splitter") (v := .ref (adr 1)) hx hb hi hts inX6_u hown hw (by decide) rfl 3 (by decide) q_318 rfl rfl dX6_clearRow_1 ?_
  refine m_get (k := 1) (C := RX3) (T := TX3) (N := 5) (ref := "LiftFactors$Field") (v := .long (Int64.ofInt (M.1 1 0))) hx hb hi hts inX3_u hown hw (by decide) rfl 0 (by decide) q_320 rfl rfl dX6_clearRow_4 ?_
  refine lv_lstore (lv' := [(4, .long (Int64.ofInt (M.1 1 0))), (0, .ref (adr 4)), (1, .int (Int32.ofInt a0)), (2, .int (Int32.ofInt a1)), (3, .int (Int32.ofInt a2))]) hx hb dX6_clearRow_7 hl (by decide) rfl (fun ls hl => ?_)
  refine lv_lload hx hb dX6_clearRow_9 (lv_at hl 0 rfl) ?_
  refine lv_aload_n hx hb dX6_clearRow_11 rfl (lv_at hl 1 rfl) ?_
  refine m_get (k := 4) (C := RX6) (T := TX6) (N := 9) (ref := "LiftFactors$Splitter") (v := .ref (adr 1)) hx hb hi hts inX6_u hown hw (by decide) rfl 3 (by decide) q_318 rfl rfl dX6_clearRow_12 ?_
  refine lv_aload_n hx hb dX6_clearRow_15 rfl (lv_at hl 1 rfl) ?_
  refine m_get (k := 4) (C := RX6) (T := TX6) (N := 9) (ref := "LiftFactors$Splitter") (v := .ref (adr 21)) hx hb hi hts inX6_u hown hw (by decide) rfl 4 (by decide) q_327 rfl rfl dX6_clearRow_16 ?_
  refine lv_iload_n hx hb dX6_clearRow_19 rfl (lv_at hl 2 rfl) ?_
  replace h := bnd h
  obtain ⟨v1, e1, h⟩ := h
  refine o_aald hx hb hi hw e1 dX6_clearRow_20 ?_
  refine lv_iload_n hx hb dX6_clearRow_21 rfl (lv_at hl 3 rfl) ?_
  replace h := bnd h
  obtain ⟨v2, e2, h⟩ := h
  refine o_lald hx hb hi hw e2 dX6_clearRow_22 ?_
  replace h := bnd h
  obtain ⟨v3, e3, h⟩ := h
  refine m_callVl (k := 1) (As := [.long (Int64.ofInt v2)]) (rest := [.long (Int64.ofInt (M.1 1 0))]) cx.fix hi hw (cc_X3_inverse (l := l) (G := G) (sz := H.size) hi e3) (by decide) rfl rfl (w_cV 1 hts q_332 q_287 q_288 q_289 q_290 rfl rfl (by decide) (by decide)) hl.1 rfl (lv_room (Nat.le_of_ble_eq_true rfl)) dX6_clearRow_23 (fun H locs hw => ?_)
  refine o_lsub hx hb dX6_clearRow_26 ?_
  refine lv_lstore (lv' := [(6, .long (Int64.ofInt ((M.1 1 0) - v3))), (4, .long (Int64.ofInt (M.1 1 0))), (0, .ref (adr 4)), (1, .int (Int32.ofInt a0)), (2, .int (Int32.ofInt a1)), (3, .int (Int32.ofInt a2))]) hx hb dX6_clearRow_27 hl (by decide) rfl (fun ls hl => ?_)
  refine lv_iload_n hx hb dX6_clearRow_29 rfl (lv_at hl 3 rfl) ?_
  refine lv_istore (lv' := [(8, .int (Int32.ofInt a0)), (6, .long (Int64.ofInt ((M.1 1 0) - v3))), (4, .long (Int64.ofInt (M.1 1 0))), (0, .ref (adr 4)), (1, .int (Int32.ofInt a0)), (2, .int (Int32.ofInt a1)), (3, .int (Int32.ofInt a2))]) hx hb dX6_clearRow_30 hl (by decide) rfl (fun ls hl => ?_)
  replace h := bnd h
  obtain ⟨M14, j13, h⟩ := h
  refine lp_W (Wst := fun (st : MI × Int) => ∀ (ls : Array Slot) (H : Heap) (locs : List Loc), lv_has ls 12 [(0, .ref (adr 4)), (1, .int (Int32.ofInt a0)), (2, .int (Int32.ofInt a1)), (3, .int (Int32.ofInt a2)), (4, .long (Int64.ofInt (M.1 1 0))), (6, .long (Int64.ofInt ((M.1 1 0) - v3))), (8, .int (Int32.ofInt st.2))] → wH G A s.heap s (LL adr) (wf G adr (tm st.1)) H locs → W p l e { frames := 1, cells := 0, slots := 0, locals := 28 } s m args below meth c H locs 0 0 Q (F0 m 32 ls [])) (fin := fun (r : MI) => ∀ (ls : Array Slot) (H : Heap) (locs : List Loc), lv_has ls 12 [(0, .ref (adr 4)), (1, .int (Int32.ofInt a0)), (2, .int (Int32.ofInt a1)), (3, .int (Int32.ofInt a2)), (4, .long (Int64.ofInt (M.1 1 0)))] → wH G A s.heap s (LL adr) (wf G adr (tm r)) H locs → W p l e { frames := 1, cells := 0, slots := 0, locals := 28 } s m args below meth c H locs 0 0 Q (F0 m 68 ls [])) ?_ n _ _ j13 ?_ _ _ _ (lv_sub hl [3, 4, 5, 6, 2, 1, 0] rfl) hw
  · clear h j13 hw hl
    intro ⟨M4, v5⟩ x h k1 k2 ls H locs hl hw
    (try dsimp only at k1 k2 hl hw ⊢)
    unfold l_X6_clearRow_32 at h
    (try dsimp only at h)
    refine lv_iload hx hb dX6_clearRow_32 (lv_at hl 6 rfl) ?_
    refine lv_iload_n hx hb dX6_clearRow_34 rfl (lv_at hl 3 rfl) ?_
    replace h := bnd h
    obtain ⟨_, hg, h⟩ := h
    refine o_icmp_ge (tgt := 68) hx hb hg dX6_clearRow_35 (by decide) (fun hc => ?_) (fun hc => ?_)
    · replace h := ite_t hc h
      cases h
      exact k1 _ rfl _ _ _ (lv_sub hl [0, 1, 2, 3, 4] rfl) hw
    · replace h := ite_f hc h
      refine lv_aload_n hx hb dX6_clearRow_38 rfl (lv_at hl 0 rfl) ?_
      refine m_get (k := 4) (C := RX6) (T := TX6) (N := 9) (ref := "LiftFactors$Splitter") (v := .ref (adr 21)) hx hb hi hts inX6_u hown hw (by decide) rfl 4 (by decide) q_327 rfl rfl dX6_clearRow_39 ?_
      refine lv_iload hx hb dX6_clearRow_42 (lv_at hl 6 rfl) ?_
      replace h := bnd h
      obtain ⟨v8, e8, h⟩ := h
      refine o_aald hx hb hi hw e8 dX6_clearRow_44 ?_
      refine lv_iload_n hx hb dX6_clearRow_45 rfl (lv_at hl 2 rfl) ?_
      refine lv_aload_n hx hb dX6_clearRow_46 rfl (lv_at hl 0 rfl) ?_
      refine m_get (k := 4) (C := RX6) (T := TX6) (N := 9) (ref := "LiftFactors$Splitter") (v := .ref (adr 21)) hx hb hi hts inX6_u hown hw (by decide) rfl 4 (by decide) q_327 rfl rfl dX6_clearRow_47 ?_
      refine lv_iload hx hb dX6_clearRow_50 (lv_at hl 6 rfl) ?_
      replace h := bnd h
      obtain ⟨v9, e9, h⟩ := h
      refine o_aald hx hb hi hw e9 dX6_clearRow_52 ?_
      refine lv_iload_n hx hb dX6_clearRow_53 rfl (lv_at hl 2 rfl) ?_
      replace h := bnd h
      obtain ⟨v10, e10, h⟩ := h
      refine o_lald hx hb hi hw e10 dX6_clearRow_54 ?_
      refine lv_lload hx hb dX6_clearRow_55 (lv_at hl 5 rfl) ?_
      refine o_lmul hx hb dX6_clearRow_57 ?_
      refine lv_lload hx hb dX6_clearRow_58 (lv_at hl 4 rfl) ?_
      replace h := bnd h
      obtain ⟨v11, e11, h⟩ := h
      refine o_lrem hx hb e11 dX6_clearRow_60 ?_
      replace h := bnd h
      obtain ⟨v12, e12, h⟩ := h
      refine o_last hx hb hi hw e12 dX6_clearRow_61 (fun H locs hw => ?_)
      refine lv_iinc (v := Int32.ofInt (v5 + 1)) (lv' := [(8, .int (Int32.ofInt (v5 + 1))), (0, .ref (adr 4)), (1, .int (Int32.ofInt a0)), (2, .int (Int32.ofInt a1)), (3, .int (Int32.ofInt a2)), (4, .long (Int64.ofInt (M.1 1 0))), (6, .long (Int64.ofInt ((M.1 1 0) - v3)))]) hx hb dX6_clearRow_62 hl (k := 6) rfl (inc_o _ _) (by decide) rfl (fun ls hl => ?_)
      refine lv_goto (tgt := 32) hx hb dX6_clearRow_65 (by decide) ?_
      cases h
      exact k2 _ rfl _ _ _ (lv_sub hl [1, 2, 3, 4, 5, 6, 0] rfl) hw
  · clear hw hl
    intro ls H locs hl hw
    (try dsimp only at hl hw ⊢)
    refine lv_iconst (v := Int32.ofInt (0)) hx hb dX6_clearRow_68 rfl ?_
    refine lv_istore (lv' := [(8, .int (Int32.ofInt (0))), (0, .ref (adr 4)), (1, .int (Int32.ofInt a0)), (2, .int (Int32.ofInt a1)), (3, .int (Int32.ofInt a2)), (4, .long (Int64.ofInt (M.1 1 0)))]) hx hb dX6_clearRow_69 hl (by decide) rfl (fun ls hl => ?_)
    replace h := bnd h
    obtain ⟨M32, j31, h⟩ := h
    refine lp_W (Wst := fun (st : MI × Int) => ∀ (ls : Array Slot) (H : Heap) (locs : List Loc), lv_has ls 12 [(0, .ref (adr 4)), (1, .int (Int32.ofInt a0)), (2, .int (Int32.ofInt a1)), (3, .int (Int32.ofInt a2)), (4, .long (Int64.ofInt (M.1 1 0))), (8, .int (Int32.ofInt st.2))] → wH G A s.heap s (LL adr) (wf G adr (tm st.1)) H locs → W p l e { frames := 1, cells := 0, slots := 0, locals := 28 } s m args below meth c H locs 0 0 Q (F0 m 71 ls [])) (fin := fun (r : MI) => ∀ (ls : Array Slot) (H : Heap) (locs : List Loc), lv_has ls 12 [] → wH G A s.heap s (LL adr) (wf G adr (tm r)) H locs → W p l e { frames := 1, cells := 0, slots := 0, locals := 28 } s m args below meth c H locs 0 0 Q (F0 m 158 ls [])) ?_ n _ _ j31 ?_ _ _ _ (lv_sub hl [1, 2, 3, 4, 5, 0] rfl) hw
    · clear h j31 hw hl
      intro ⟨M15, v16⟩ x h k1 k2 ls H locs hl hw
      (try dsimp only at k1 k2 hl hw ⊢)
      unfold l_X6_clearRow_71 at h
      (try dsimp only at h)
      refine lv_iload hx hb dX6_clearRow_71 (lv_at hl 5 rfl) ?_
      refine lv_iload_n hx hb dX6_clearRow_73 rfl (lv_at hl 3 rfl) ?_
      replace h := bnd h
      obtain ⟨_, hg, h⟩ := h
      refine o_icmp_ge (tgt := 158) hx hb hg dX6_clearRow_74 (by decide) (fun hc => ?_) (fun hc => ?_)
      · replace h := ite_t hc h
        cases h
        exact k1 _ rfl _ _ _ (lv_sub hl [] rfl) hw
      · replace h := ite_f hc h
        refine lv_aload_n hx hb dX6_clearRow_77 rfl (lv_at hl 0 rfl) ?_
        refine m_get (k := 4) (C := RX6) (T := TX6) (N := 9) (ref := "LiftFactors$Splitter") (v := .ref (adr 21)) hx hb hi hts inX6_u hown hw (by decide) rfl 4 (by decide) q_327 rfl rfl dX6_clearRow_78 ?_
        refine lv_iload_n hx hb dX6_clearRow_81 rfl (lv_at hl 1 rfl) ?_
        replace h := bnd h
        obtain ⟨v18, e18, h⟩ := h
        refine o_aald hx hb hi hw e18 dX6_clearRow_82 ?_
        refine lv_iload hx hb dX6_clearRow_83 (lv_at hl 5 rfl) ?_
        replace h := bnd h
        obtain ⟨v19, e19, h⟩ := h
        refine o_lald hx hb hi hw e19 dX6_clearRow_85 ?_
        refine lv_lstore (lv' := [(9, .long (Int64.ofInt v19)), (0, .ref (adr 4)), (1, .int (Int32.ofInt a0)), (2, .int (Int32.ofInt a1)), (3, .int (Int32.ofInt a2)), (4, .long (Int64.ofInt (M.1 1 0))), (8, .int (Int32.ofInt v16))]) hx hb dX6_clearRow_86 hl (by decide) rfl (fun ls hl => ?_)
        refine lv_iload_n hx hb dX6_clearRow_88 rfl (lv_at hl 2 rfl) ?_
        refine lv_istore (lv' := [(11, .int (Int32.ofInt a0)), (9, .long (Int64.ofInt v19)), (0, .ref (adr 4)), (1, .int (Int32.ofInt a0)), (2, .int (Int32.ofInt a1)), (3, .int (Int32.ofInt a2)), (4, .long (Int64.ofInt (M.1 1 0))), (8, .int (Int32.ofInt v16))]) hx hb dX6_clearRow_89 hl (by decide) rfl (fun ls hl => ?_)
        replace h := bnd h
        obtain ⟨M30, j29, h⟩ := h
        refine lp_W (Wst := fun (st : MI × Int) => ∀ (ls : Array Slot) (H : Heap) (locs : List Loc), lv_has ls 12 [(0, .ref (adr 4)), (1, .int (Int32.ofInt a0)), (2, .int (Int32.ofInt a1)), (3, .int (Int32.ofInt a2)), (4, .long (Int64.ofInt (M.1 1 0))), (8, .int (Int32.ofInt v16)), (9, .long (Int64.ofInt v19)), (11, .int (Int32.ofInt st.2))] → wH G A s.heap s (LL adr) (wf G adr (tm st.1)) H locs → W p l e { frames := 1, cells := 0, slots := 0, locals := 28 } s m args below meth c H locs 0 0 Q (F0 m 91 ls [])) (fin := fun (r : MI) => ∀ (ls : Array Slot) (H : Heap) (locs : List Loc), lv_has ls 12 [(0, .ref (adr 4)), (1, .int (Int32.ofInt a0)), (2, .int (Int32.ofInt a1)), (3, .int (Int32.ofInt a2)), (4, .long (Int64.ofInt (M.1 1 0))), (8, .int (Int32.ofInt v16))] → wH G A s.heap s (LL adr) (wf G adr (tm r)) H locs → W p l e { frames := 1, cells := 0, slots := 0, locals := 28 } s m args below meth c H locs 0 0 Q (F0 m 152 ls [])) ?_ n _ _ j29 ?_ _ _ _ (lv_sub hl [2, 3, 4, 5, 6, 7, 1, 0] rfl) hw
        · clear h j29 hw hl
          intro ⟨M20, v21⟩ x h k1 k2 ls H locs hl hw
          (try dsimp only at k1 k2 hl hw ⊢)
          unfold l_X6_clearRow_91 at h
          (try dsimp only at h)
          refine lv_iload hx hb dX6_clearRow_91 (lv_at hl 7 rfl) ?_
          refine lv_iload_n hx hb dX6_clearRow_93 rfl (lv_at hl 3 rfl) ?_
          replace h := bnd h
          obtain ⟨_, hg, h⟩ := h
          refine o_icmp_ge (tgt := 152) hx hb hg dX6_clearRow_94 (by decide) (fun hc => ?_) (fun hc => ?_)
          · replace h := ite_t hc h
            cases h
            exact k1 _ rfl _ _ _ (lv_sub hl [0, 1, 2, 3, 4, 5] rfl) hw
          · replace h := ite_f hc h
            refine lv_lload hx hb dX6_clearRow_97 (lv_at hl 6 rfl) ?_
            refine lv_lconst (v := Int64.ofInt (0)) hx hb dX6_clearRow_99 (by decide) ?_
            replace h := bnd h
            obtain ⟨_, hg, h⟩ := h
            refine o_lcmp_eq (tgt := 152) hx hb hg dX6_clearRow_100 dX6_clearRow_101 (by decide) (fun hc => ?_) (fun hc => ?_)
            · replace h := ite_t hc h
              cases h
              exact k1 _ rfl _ _ _ (lv_sub hl [0, 1, 2, 3, 4, 5] rfl) hw
            · replace h := ite_f hc h
              refine lv_iload hx hb dX6_clearRow_104 (lv_at hl 5 rfl) ?_
              refine lv_iload_n hx hb dX6_clearRow_106 rfl (lv_at hl 2 rfl) ?_
              replace h := bnd h
              obtain ⟨_, hg, h⟩ := h
              refine o_icmp_eq (tgt := 152) hx hb hg dX6_clearRow_107 (by decide) (fun hc => ?_) (fun hc => ?_)
              · replace h := ite_t hc h
                cases h
                exact k1 _ rfl _ _ _ (lv_sub hl [0, 1, 2, 3, 4, 5] rfl) hw
              · replace h := ite_f hc h
                refine lv_aload_n hx hb dX6_clearRow_110 rfl (lv_at hl 0 rfl) ?_
                refine m_get (k := 4) (C := RX6) (T := TX6) (N := 9) (ref := "LiftFactors$Splitter") (v := .ref (adr 21)) hx hb hi hts inX6_u hown hw (by decide) rfl 4 (by decide) q_327 rfl rfl dX6_clearRow_111 ?_
                refine lv_iload hx hb dX6_clearRow_114 (lv_at hl 7 rfl) ?_
                replace h := bnd h
                obtain ⟨v22, e22, h⟩ := h
                refine o_aald hx hb hi hw e22 dX6_clearRow_116 ?_
                refine lv_iload hx hb dX6_clearRow_117 (lv_at hl 5 rfl) ?_
                refine lv_aload_n hx hb dX6_clearRow_119 rfl (lv_at hl 0 rfl) ?_
                refine m_get (k := 4) (C := RX6) (T := TX6) (N := 9) (ref := "LiftFactors$Splitter") (v := .ref (adr 21)) hx hb hi hts inX6_u hown hw (by decide) rfl 4 (by decide) q_327 rfl rfl dX6_clearRow_120 ?_
                refine lv_iload hx hb dX6_clearRow_123 (lv_at hl 7 rfl) ?_
                replace h := bnd h
                obtain ⟨v23, e23, h⟩ := h
                refine o_aald hx hb hi hw e23 dX6_clearRow_125 ?_
                refine lv_iload hx hb dX6_clearRow_126 (lv_at hl 5 rfl) ?_
                replace h := bnd h
                obtain ⟨v24, e24, h⟩ := h
                refine o_lald hx hb hi hw e24 dX6_clearRow_128 ?_
                refine lv_lload hx hb dX6_clearRow_129 (lv_at hl 6 rfl) ?_
                refine lv_aload_n hx hb dX6_clearRow_131 rfl (lv_at hl 0 rfl) ?_
                refine m_get (k := 4) (C := RX6) (T := TX6) (N := 9) (ref := "LiftFactors$Splitter") (v := .ref (adr 21)) hx hb hi hts inX6_u hown hw (by decide) rfl 4 (by decide) q_327 rfl rfl dX6_clearRow_132 ?_
                refine lv_iload hx hb dX6_clearRow_135 (lv_at hl 7 rfl) ?_
                replace h := bnd h
                obtain ⟨v25, e25, h⟩ := h
                refine o_aald hx hb hi hw e25 dX6_clearRow_137 ?_
                refine lv_iload_n hx hb dX6_clearRow_138 rfl (lv_at hl 2 rfl) ?_
                replace h := bnd h
                obtain ⟨v26, e26, h⟩ := h
                refine o_lald hx hb hi hw e26 dX6_clearRow_139 ?_
                refine o_lmul hx hb dX6_clearRow_140 ?_
                refine o_ladd hx hb dX6_clearRow_141 ?_
                refine lv_lload hx hb dX6_clearRow_142 (lv_at hl 4 rfl) ?_
                replace h := bnd h
                obtain ⟨v27, e27, h⟩ := h
                refine o_lrem hx hb e27 dX6_clearRow_144 ?_
                replace h := bnd h
                obtain ⟨v28, e28, h⟩ := h
                refine o_last hx hb hi hw e28 dX6_clearRow_145 (fun H locs hw => ?_)
                refine lv_iinc (v := Int32.ofInt (v21 + 1)) (lv' := [(11, .int (Int32.ofInt (v21 + 1))), (0, .ref (adr 4)), (1, .int (Int32.ofInt a0)), (2, .int (Int32.ofInt a1)), (3, .int (Int32.ofInt a2)), (4, .long (Int64.ofInt (M.1 1 0))), (8, .int (Int32.ofInt v16)), (9, .long (Int64.ofInt v19))]) hx hb dX6_clearRow_146 hl (k := 7) rfl (inc_o _ _) (by decide) rfl (fun ls hl => ?_)
                refine lv_goto (tgt := 91) hx hb dX6_clearRow_149 (by decide) ?_
                cases h
                exact k2 _ rfl _ _ _ (lv_sub hl [1, 2, 3, 4, 5, 6, 7, 0] rfl) hw
        · clear hw hl
          intro ls H locs hl hw
          (try dsimp only at hl hw ⊢)
          refine lv_iinc (v := Int32.ofInt (v16 + 1)) (lv' := [(8, .int (Int32.ofInt (v16 + 1))), (0, .ref (adr 4)), (1, .int (Int32.ofInt a0)), (2, .int (Int32.ofInt a1)), (3, .int (Int32.ofInt a2)), (4, .long (Int64.ofInt (M.1 1 0)))]) hx hb dX6_clearRow_152 hl (k := 5) rfl (inc_o _ _) (by decide) rfl (fun ls hl => ?_)
          refine lv_goto (tgt := 71) hx hb dX6_clearRow_155 (by decide) ?_
          cases h
          exact k2 _ rfl _ _ _ (lv_sub hl [1, 2, 3, 4, 5, 0] rfl) hw
    · clear hw hl
      intro ls H locs hl hw
      (try dsimp only at hl hw ⊢)
      cases h
      exact kr _ _ _ _ dX6_clearRow_158 hw
theorem cc_X6_clearRow {l : Launch} {G : gG} {adr : Nat → Nat} {sz : Nat} (hi : adi adr) {n : Nat} {a0 : Int} {a1 : Int} {a2 : Int} {M M' : MI} (h : f_X6_clearRow n a0 a1 a2 M = some M') : mV l yX6_clearRow cX6_clearRow 12 none { frames := 1, cells := 0, slots := 0, locals := 28 } G adr [.ref (adr 4), .int (Int32.ofInt a0), .int (Int32.ofInt a1), .int (Int32.ofInt a2)] (tm M) sz (tm M') := by
  refine wEnter (by decide) (Nat.le_of_ble_eq_true rfl) ?_
  intro p e s m below meth c ls cx hinit hl hsz hw
  exact b_X6_clearRow cx hi h (fun pc ls H locs hd hw => w_vret (post := fun (u : Mem) => u = tm M') (lf := fun u => (LL adr, wf G adr u)) cx.1 cx.2.1 cx.2.2.1 cx.2.2.2.2.2.2 (tm M') hw rfl hd) hl hw
theorem q_333 : Cond.fieldLink RX6 26 "LiftFactors$Splitter" "fixed" "[[J" ∈ uU := uU_in (by decide +kernel) (by decide +kernel)
theorem q_334 : Cond.fieldLink RX6 20 "LiftFactors$Splitter" "fixedCount" "I" ∈ uU := uU_in (by decide +kernel) (by decide +kernel)
def l_X6_addFixed_22 (a0 : Int) (a1 : Int) (v1 : Nat) : MI × Int → Option ((MI) ⊕ (MI × Int)) := fun (M4, v5) =>
  Option.bind (gI v5 a1) fun _ =>
  if a1 ≤ v5 then
    some (.inl M4)
  else
    Option.bind (odI M4 23 v5) fun v6 =>
    Option.bind (
      Option.bind (gI v6 0) fun _ =>
      if v6 < 0 then
        some M4
      else
        Option.bind (odI M4 23 v5) fun v7 =>
        Option.bind (odA 21 a0) fun v8 =>
        Option.bind (odJ M4 v8 v5) fun v9 =>
        Option.bind (osJ M4 v1 v7 v9) fun v10 =>
        some v10) fun M11 =>
    some (.inr (M11, v5 + 1))
def f_X6_addFixed (n : Nat) (a0 : Int) (a1 : Int) (M : MI) : Option MI :=
  Option.bind (odA 22 (M.2 4 2)) fun v1 =>
  Option.bind (f_J7_fill_d0a16 n v1 (0) M) fun v2 =>
  Option.bind (osJ v2 v1 a0 (1)) fun v3 =>
  Option.bind (lpF (l_X6_addFixed_22 a0 a1 v1) n (v3, (0))) fun M14 =>
  Option.bind (opI M14 4 2 ((M14.2 4 2) + (1))) fun v15 =>
  some v15
set_option maxRecDepth 100000 in
set_option maxHeartbeats 8000000 in
theorem b_X6_addFixed {p : Program} {l : Launch} {e : Env} {s : State} {m : MethodId} {args : Array Value} {below : List Frame} {meth : Method} {c : Code} {Q : State → Prop} {G : gG} {A : Nat → Prop} {adr : Nat → Nat} (cx : cX p s m args meth c cX6_addFixed none 5 yX6_addFixed.cls) (hi : adi adr) {n : Nat} {a0 : Int} {a1 : Int} {M M' : MI} 
    (h : f_X6_addFixed n a0 a1 M = some M')
    (kr : ∀ (pc : Nat) (ls : Array Slot) (H : Heap) (locs : List Loc), decode cX6_addFixed pc = .ok (.return_, 1) → wH G A s.heap s (LL adr) (wf G adr (tm M')) H locs → W p l e { frames := 1, cells := 0, slots := 0, locals := 24 } s m args below meth c H locs 0 0 Q (F0 m pc ls []))
    {ls : Array Slot} {H : Heap} {locs : List Loc} (hl : lv_has ls 5 [(0, .ref (adr 4)), (1, .int (Int32.ofInt a0)), (2, .int (Int32.ofInt a1))]) (hw : wH G A s.heap s (LL adr) (wf G adr (tm M)) H locs) : W p l e { frames := 1, cells := 0, slots := 0, locals := 24 } s m args below meth c H locs 0 0 Q (F0 m 0 ls []) := by
  obtain ⟨hx, hb, -, -, hown, hts, -⟩ := id cx
  have hown : s.vm.findClass RX6 = some m.cls := hown
  unfold f_X6_addFixed at h
  refine lv_aload_n hx hb dX6_addFixed_0 rfl (lv_at hl 0 rfl) ?_
  refine m_get (k := 4) (C := RX6) (T := TX6) (N := 9) (ref := "LiftFactors$Splitter") (v := .ref (adr 22)) hx hb hi hts inX6_u hown hw (by decide) rfl 5 (by decide) q_333 rfl rfl dX6_addFixed_1 ?_
  refine lv_aload_n hx hb dX6_addFixed_4 rfl (lv_at hl 0 rfl) ?_
  refine m_get (k := 4) (C := RX6) (T := TX6) (N := 9) (ref := "LiftFactors$Splitter") (v := .int (Int32.ofInt (M.2 4 2))) hx hb hi hts inX6_u hown hw (by decide) rfl 2 (by decide) q_334 rfl rfl dX6_addFixed_5 ?_
  replace h := bnd h
  obtain ⟨v1, e1, h⟩ := h
  refine o_aald hx hb hi hw e1 dX6_addFixed_8 ?_
  refine lv_astore_n (lv' := [(3, .ref (adr v1)), (0, .ref (adr 4)), (1, .int (Int32.ofInt a0)), (2, .int (Int32.ofInt a1))]) hx hb dX6_addFixed_9 rfl hl (by decide) rfl (fun ls hl => ?_)
  refine lv_aload_n hx hb dX6_addFixed_10 rfl (lv_at hl 0 rfl) ?_
  refine lv_lconst (v := Int64.ofInt (0)) hx hb dX6_addFixed_11 (by decide) ?_
  replace h := bnd h
  obtain ⟨v2, e2, h⟩ := h
  refine m_callSv (As := [.ref (adr v1), .long (Int64.ofInt (0))]) (rest := []) cx.fix hw (cc_J7_fill_d0a16 (l := l) (G := G) (sz := H.size) hi e2) (w_cS 2 hts q_317 q_265 q_266 q_267 rfl rfl (by decide) (by decide)) hl.1 rfl (lv_room (Nat.le_of_ble_eq_true rfl)) dX6_addFixed_12 (fun H locs hw => ?_)
  refine lv_aload_n hx hb dX6_addFixed_15 rfl (lv_at hl 0 rfl) ?_
  refine lv_iload_n hx hb dX6_addFixed_16 rfl (lv_at hl 2 rfl) ?_
  refine lv_lconst (v := Int64.ofInt (1)) hx hb dX6_addFixed_17 (by decide) ?_
  replace h := bnd h
  obtain ⟨v3, e3, h⟩ := h
  refine o_last hx hb hi hw e3 dX6_addFixed_18 (fun H locs hw => ?_)
  refine lv_iconst (v := Int32.ofInt (0)) hx hb dX6_addFixed_19 rfl ?_
  refine lv_istore (lv' := [(4, .int (Int32.ofInt (0))), (3, .ref (adr v1)), (0, .ref (adr 4)), (1, .int (Int32.ofInt a0)), (2, .int (Int32.ofInt a1))]) hx hb dX6_addFixed_20 hl (by decide) rfl (fun ls hl => ?_)
  replace h := bnd h
  obtain ⟨M14, j13, h⟩ := h
  refine lp_W (Wst := fun (st : MI × Int) => ∀ (ls : Array Slot) (H : Heap) (locs : List Loc), lv_has ls 5 [(0, .ref (adr 4)), (1, .int (Int32.ofInt a0)), (2, .int (Int32.ofInt a1)), (3, .ref (adr v1)), (4, .int (Int32.ofInt st.2))] → wH G A s.heap s (LL adr) (wf G adr (tm st.1)) H locs → W p l e { frames := 1, cells := 0, slots := 0, locals := 24 } s m args below meth c H locs 0 0 Q (F0 m 22 ls [])) (fin := fun (r : MI) => ∀ (ls : Array Slot) (H : Heap) (locs : List Loc), lv_has ls 5 [(0, .ref (adr 4))] → wH G A s.heap s (LL adr) (wf G adr (tm r)) H locs → W p l e { frames := 1, cells := 0, slots := 0, locals := 24 } s m args below meth c H locs 0 0 Q (F0 m 62 ls [])) ?_ n _ _ j13 ?_ _ _ _ (lv_sub hl [2, 3, 4, 1, 0] rfl) hw
  · clear h j13 hw hl
    intro ⟨M4, v5⟩ x h k1 k2 ls H locs hl hw
    (try dsimp only at k1 k2 hl hw ⊢)
    unfold l_X6_addFixed_22 at h
    (try dsimp only at h)
    refine lv_iload hx hb dX6_addFixed_22 (lv_at hl 4 rfl) ?_
    refine lv_iload_n hx hb dX6_addFixed_24 rfl (lv_at hl 2 rfl) ?_
    replace h := bnd h
    obtain ⟨_, hg, h⟩ := h
    refine o_icmp_ge (tgt := 62) hx hb hg dX6_addFixed_25 (by decide) (fun hc => ?_) (fun hc => ?_)
    · replace h := ite_t hc h
      cases h
      exact k1 _ rfl _ _ _ (lv_sub hl [0] rfl) hw
    · replace h := ite_f hc h
      refine lv_aload_n hx hb dX6_addFixed_28 rfl (lv_at hl 0 rfl) ?_
      refine m_get (k := 4) (C := RX6) (T := TX6) (N := 9) (ref := "LiftFactors$Splitter") (v := .ref (adr 23)) hx hb hi hts inX6_u hown hw (by decide) rfl 6 (by decide) q_331 rfl rfl dX6_addFixed_29 ?_
      refine lv_iload hx hb dX6_addFixed_32 (lv_at hl 4 rfl) ?_
      replace h := bnd h
      obtain ⟨v6, e6, h⟩ := h
      refine o_iald hx hb hi hw e6 dX6_addFixed_34 ?_
      replace h := bnd h
      obtain ⟨M11, j12, h⟩ := h
      have kj : ∀ (ls : Array Slot) (H : Heap) (locs : List Loc), lv_has ls 5 [(0, .ref (adr 4)), (1, .int (Int32.ofInt a0)), (2, .int (Int32.ofInt a1)), (3, .ref (adr v1)), (4, .int (Int32.ofInt v5))] → wH G A s.heap s (LL adr) (wf G adr (tm M11)) H locs → W p l e { frames := 1, cells := 0, slots := 0, locals := 24 } s m args below meth c H locs 0 0 Q (F0 m 56 ls []) := by
        intro ls H locs hl hw
        refine lv_iinc (v := Int32.ofInt (v5 + 1)) (lv' := [(4, .int (Int32.ofInt (v5 + 1))), (0, .ref (adr 4)), (1, .int (Int32.ofInt a0)), (2, .int (Int32.ofInt a1)), (3, .ref (adr v1))]) hx hb dX6_addFixed_56 hl (k := 4) rfl (inc_o _ _) (by decide) rfl (fun ls hl => ?_)
        refine lv_goto (tgt := 22) hx hb dX6_addFixed_59 (by decide) ?_
        cases h
        exact k2 _ rfl _ _ _ (lv_sub hl [1, 2, 3, 4, 0] rfl) hw
      clear h
      replace h := j12
      clear j12
      replace h := bnd h
      obtain ⟨_, hg, h⟩ := h
      refine o_if_lt (tgt := 56) hx hb hg dX6_addFixed_35 (by decide) (fun hc => ?_) (fun hc => ?_)
      · replace h := ite_t hc h
        cases h
        exact kj _ _ _ (lv_sub hl [0, 1, 2, 3, 4] rfl) hw
      · replace h := ite_f hc h
        refine lv_aload_n hx hb dX6_addFixed_38 rfl (lv_at hl 3 rfl) ?_
        refine lv_aload_n hx hb dX6_addFixed_39 rfl (lv_at hl 0 rfl) ?_
        refine m_get (k := 4) (C := RX6) (T := TX6) (N := 9) (ref := "LiftFactors$Splitter") (v := .ref (adr 23)) hx hb hi hts inX6_u hown hw (by decide) rfl 6 (by decide) q_331 rfl rfl dX6_addFixed_40 ?_
        refine lv_iload hx hb dX6_addFixed_43 (lv_at hl 4 rfl) ?_
        replace h := bnd h
        obtain ⟨v7, e7, h⟩ := h
        refine o_iald hx hb hi hw e7 dX6_addFixed_45 ?_
        refine lv_aload_n hx hb dX6_addFixed_46 rfl (lv_at hl 0 rfl) ?_
        refine m_get (k := 4) (C := RX6) (T := TX6) (N := 9) (ref := "LiftFactors$Splitter") (v := .ref (adr 21)) hx hb hi hts inX6_u hown hw (by decide) rfl 4 (by decide) q_327 rfl rfl dX6_addFixed_47 ?_
        refine lv_iload_n hx hb dX6_addFixed_50 rfl (lv_at hl 1 rfl) ?_
        replace h := bnd h
        obtain ⟨v8, e8, h⟩ := h
        refine o_aald hx hb hi hw e8 dX6_addFixed_51 ?_
        refine lv_iload hx hb dX6_addFixed_52 (lv_at hl 4 rfl) ?_
        replace h := bnd h
        obtain ⟨v9, e9, h⟩ := h
        refine o_lald hx hb hi hw e9 dX6_addFixed_54 ?_
        replace h := bnd h
        obtain ⟨v10, e10, h⟩ := h
        refine o_last hx hb hi hw e10 dX6_addFixed_55 (fun H locs hw => ?_)
        cases h
        exact kj _ _ _ (lv_sub hl [0, 1, 2, 3, 4] rfl) hw
  · clear hw hl
    intro ls H locs hl hw
    (try dsimp only at hl hw ⊢)
    refine lv_aload_n hx hb dX6_addFixed_62 rfl (lv_at hl 0 rfl) ?_
    refine lv_dup hx hb dX6_addFixed_63 rfl ?_
    refine m_get (k := 4) (C := RX6) (T := TX6) (N := 9) (ref := "LiftFactors$Splitter") (v := .int (Int32.ofInt (M14.2 4 2))) hx hb hi hts inX6_u hown hw (by decide) rfl 2 (by decide) q_334 rfl rfl dX6_addFixed_64 ?_
    refine lv_iconst (v := Int32.ofInt (1)) hx hb dX6_addFixed_67 rfl ?_
    refine o_iadd hx hb dX6_addFixed_68 ?_
    replace h := bnd h
    obtain ⟨v15, e15, h⟩ := h
    refine o_putI (k := 4) (C := RX6) (T := TX6) (N := 9) (ref := "LiftFactors$Splitter") hx hb hi hts inX6_u tyX6 tyX6_ok nmX6 hown hw (by decide) rfl 2 (by decide) q_334 rfl rfl e15 (by decide +kernel) rfl dX6_addFixed_69 (fun H locs hw => ?_)
    cases h
    exact kr _ _ _ _ dX6_addFixed_72 hw
theorem cc_X6_addFixed {l : Launch} {G : gG} {adr : Nat → Nat} {sz : Nat} (hi : adi adr) {n : Nat} {a0 : Int} {a1 : Int} {M M' : MI} (h : f_X6_addFixed n a0 a1 M = some M') : mV l yX6_addFixed cX6_addFixed 5 none { frames := 1, cells := 0, slots := 0, locals := 24 } G adr [.ref (adr 4), .int (Int32.ofInt a0), .int (Int32.ofInt a1)] (tm M) sz (tm M') := by
  refine wEnter (by decide) (Nat.le_of_ble_eq_true rfl) ?_
  intro p e s m below meth c ls cx hinit hl hsz hw
  exact b_X6_addFixed cx hi h (fun pc ls H locs hd hw => w_vret (post := fun (u : Mem) => u = tm M') (lf := fun u => (LL adr, wf G adr u)) cx.1 cx.2.1 cx.2.2.1 cx.2.2.2.2.2.2 (tm M') hw rfl hd) hl hw
theorem q_335 : Cond.methodLink RX6 44 yX5_degree ∈ uU := uU_in (by decide +kernel) (by decide +kernel)
theorem q_336 : Cond.methodLink RX6 50 yX6_fillMatrix ∈ uU := uU_in (by decide +kernel) (by decide +kernel)
theorem q_337 : Cond.instanceMethod yX6_fillMatrix ∈ uU := uU_in (by decide +kernel) (by decide +kernel)
theorem q_338 : Cond.selects yX6_fillMatrix.cls yX6_fillMatrix yX6_fillMatrix ∈ uU := uU_in (by decide +kernel) (by decide +kernel)
theorem q_339 : Cond.initialized yX6_fillMatrix.cls ∈ uU := uU_in (by decide +kernel) (by decide +kernel)
theorem q_340 : Cond.code yX6_fillMatrix cX6_fillMatrix 4 none ∈ uU := uU_in (by decide +kernel) (by decide +kernel)
theorem q_341 : Cond.methodLink RX6 54 yJ7_fill_53178 ∈ uU := uU_in (by decide +kernel) (by decide +kernel)
theorem q_342 : Cond.static yJ7_fill_53178 ∈ uU := uU_in (by decide +kernel) (by decide +kernel)
theorem q_343 : Cond.initialized yJ7_fill_53178.cls ∈ uU := uU_in (by decide +kernel) (by decide +kernel)
theorem q_344 : Cond.code yJ7_fill_53178 cJ7_fill_53178 4 none ∈ uU := uU_in (by decide +kernel) (by decide +kernel)
theorem q_345 : Cond.methodLink RX6 60 yX6_findPivot ∈ uU := uU_in (by decide +kernel) (by decide +kernel)
theorem q_346 : Cond.instanceMethod yX6_findPivot ∈ uU := uU_in (by decide +kernel) (by decide +kernel)
theorem q_347 : Cond.selects yX6_findPivot.cls yX6_findPivot yX6_findPivot ∈ uU := uU_in (by decide +kernel) (by decide +kernel)
theorem q_348 : Cond.initialized yX6_findPivot.cls ∈ uU := uU_in (by decide +kernel) (by decide +kernel)
theorem q_349 : Cond.code yX6_findPivot cX6_findPivot 4 (some .int) ∈ uU := uU_in (by decide +kernel) (by decide +kernel)
theorem q_350 : Cond.methodLink RX6 68 yX6_clearRow ∈ uU := uU_in (by decide +kernel) (by decide +kernel)
theorem q_351 : Cond.instanceMethod yX6_clearRow ∈ uU := uU_in (by decide +kernel) (by decide +kernel)
theorem q_352 : Cond.selects yX6_clearRow.cls yX6_clearRow yX6_clearRow ∈ uU := uU_in (by decide +kernel) (by decide +kernel)
theorem q_353 : Cond.initialized yX6_clearRow.cls ∈ uU := uU_in (by decide +kernel) (by decide +kernel)
theorem q_354 : Cond.code yX6_clearRow cX6_clearRow 12 none ∈ uU := uU_in (by decide +kernel) (by decide +kernel)
theorem q_355 : Cond.methodLink RX6 64 yX6_addFixed ∈ uU := uU_in (by decide +kernel) (by decide +kernel)
theorem q_356 : Cond.instanceMethod yX6_addFixed ∈ uU := uU_in (by decide +kernel) (by decide +kernel)
theorem q_357 : Cond.selects yX6_addFixed.cls yX6_addFixed yX6_addFixed ∈ uU := uU_in (by decide +kernel) (by decide +kernel)
theorem q_358 : Cond.initialized yX6_addFixed.cls ∈ uU := uU_in (by decide +kernel) (by decide +kernel)
theorem q_359 : Cond.code yX6_addFixed cX6_addFixed 5 none ∈ uU := uU_in (by decide +kernel) (by decide +kernel)
def l_X6_findFixed_32 (n : Nat) (v1 : Int) : MI × Int → Option ((MI) ⊕ (MI × Int)) := fun (M5, v6) =>
  Option.bind (gI v6 v1) fun _ =>
  if v1 ≤ v6 then
    some (.inl M5)
  else
    Option.bind (f_X6_findPivot n v6 v1 M5) fun v7 =>
    Option.bind (
      Option.bind (gI v7 0) fun _ =>
      if 0 ≤ v7 then
        Option.bind (f_X6_clearRow n v6 v7 v1 M5) fun v8 =>
        Option.bind (osI v8 23 v7 v6) fun v9 =>
        some v9
      else
        Option.bind (f_X6_addFixed n v6 v1 M5) fun v10 =>
        some v10) fun M11 =>
    some (.inr (M11, v6 + 1))
def f_X6_findFixed (n : Nat) (a0 : Nat) (M : MI) : Option MI :=
  Option.bind (f_X5_degree n a0 M) fun v1 =>
  Option.bind (opI M 4 2 (0)) fun v2 =>
  Option.bind (gI v1 (1)) fun _ =>
  if (1) ≤ v1 then
    Option.bind (f_X6_fillMatrix n a0 v1 v2) fun v3 =>
    Option.bind (f_J7_fill_53178 n 23 (-1) v3) fun v4 =>
    Option.bind (lpF (l_X6_findFixed_32 n v1) n (v4, (0))) fun M14 =>
    some M14
  else
    some v2
set_option maxRecDepth 100000 in
set_option maxHeartbeats 8000000 in
theorem b_X6_findFixed {p : Program} {l : Launch} {e : Env} {s : State} {m : MethodId} {args : Array Value} {below : List Frame} {meth : Method} {c : Code} {Q : State → Prop} {G : gG} {A : Nat → Prop} {adr : Nat → Nat} (cx : cX p s m args meth c cX6_findFixed none 5 yX6_findFixed.cls) (hi : adi adr) {n : Nat} {a0 : Nat} {M M' : MI} 
    (h : f_X6_findFixed n a0 M = some M')
    (kr : ∀ (pc : Nat) (ls : Array Slot) (H : Heap) (locs : List Loc), decode cX6_findFixed pc = .ok (.return_, 1) → wH G A s.heap s (LL adr) (wf G adr (tm M')) H locs → W p l e { frames := 4, cells := 0, slots := 0, locals := 106 } s m args below meth c H locs 0 0 Q (F0 m pc ls []))
    {ls : Array Slot} {H : Heap} {locs : List Loc} (hl : lv_has ls 5 [(0, .ref (adr 4)), (1, .ref (adr a0))]) (hw : wH G A s.heap s (LL adr) (wf G adr (tm M)) H locs) : W p l e { frames := 4, cells := 0, slots := 0, locals := 106 } s m args below meth c H locs 0 0 Q (F0 m 0 ls []) := by
  obtain ⟨hx, hb, -, -, hown, hts, -⟩ := id cx
  have hown : s.vm.findClass RX6 = some m.cls := hown
  unfold f_X6_findFixed at h
  refine lv_aload_n hx hb dX6_findFixed_0 rfl (lv_at hl 1 rfl) ?_
  replace h := bnd h
  obtain ⟨v1, e1, h⟩ := h
  refine m_callSi (As := [.ref (adr a0)]) (rest := []) cx.fix hw (cc_X5_degree (l := l) (G := G) (sz := H.size) hi e1) (w_cS 1 hts q_335 q_246 q_247 q_248 rfl rfl (by decide) (by decide)) hl.1 rfl (lv_room (Nat.le_of_ble_eq_true rfl)) dX6_findFixed_1 (fun H locs hw => ?_)
  refine lv_istore_n (lv' := [(2, .int (Int32.ofInt v1)), (0, .ref (adr 4)), (1, .ref (adr a0))]) hx hb dX6_findFixed_4 rfl hl (by decide) rfl (fun ls hl => ?_)
  refine lv_aload_n hx hb dX6_findFixed_5 rfl (lv_at hl 1 rfl) ?_
  refine lv_iconst (v := Int32.ofInt (0)) hx hb dX6_findFixed_6 rfl ?_
  replace h := bnd h
  obtain ⟨v2, e2, h⟩ := h
  refine o_putI (k := 4) (C := RX6) (T := TX6) (N := 9) (ref := "LiftFactors$Splitter") hx hb hi hts inX6_u tyX6 tyX6_ok nmX6 hown hw (by decide) rfl 2 (by decide) q_334 rfl rfl e2 (by decide +kernel) rfl dX6_findFixed_7 (fun H locs hw => ?_)
  refine lv_iload_n hx hb dX6_findFixed_10 rfl (lv_at hl 0 rfl) ?_
  refine lv_iconst (v := Int32.ofInt (1)) hx hb dX6_findFixed_11 rfl ?_
  replace h := bnd h
  obtain ⟨_, hg, h⟩ := h
  refine o_icmp_ge (tgt := 16) hx hb hg dX6_findFixed_12 (by decide) (fun hc => ?_) (fun hc => ?_)
  · replace h := ite_t hc h
    refine lv_aload_n hx hb dX6_findFixed_16 rfl (lv_at hl 1 rfl) ?_
    refine lv_aload_n hx hb dX6_findFixed_17 rfl (lv_at hl 2 rfl) ?_
    refine lv_iload_n hx hb dX6_findFixed_18 rfl (lv_at hl 0 rfl) ?_
    replace h := bnd h
    obtain ⟨v3, e3, h⟩ := h
    refine m_callVv (k := 4) (As := [.ref (adr a0), .int (Int32.ofInt v1)]) (rest := []) cx.fix hi hw (cc_X6_fillMatrix (l := l) (G := G) (sz := H.size) hi e3) (by decide) rfl rfl (w_cV 2 hts q_336 q_337 q_338 q_339 q_340 rfl rfl (by decide) (by decide)) hl.1 rfl (lv_room (Nat.le_of_ble_eq_true rfl)) dX6_findFixed_19 (fun H locs hw => ?_)
    refine lv_aload_n hx hb dX6_findFixed_22 rfl (lv_at hl 1 rfl) ?_
    refine m_get (k := 4) (C := RX6) (T := TX6) (N := 9) (ref := "LiftFactors$Splitter") (v := .ref (adr 23)) hx hb hi hts inX6_u hown hw (by decide) rfl 6 (by decide) q_331 rfl rfl dX6_findFixed_23 ?_
    refine lv_iconst (v := Int32.ofInt (-1)) hx hb dX6_findFixed_26 rfl ?_
    replace h := bnd h
    obtain ⟨v4, e4, h⟩ := h
    refine m_callSv (As := [.ref (adr 23), .int (Int32.ofInt (-1))]) (rest := []) cx.fix hw (cc_J7_fill_53178 (l := l) (G := G) (sz := H.size) hi e4) (w_cS 2 hts q_341 q_342 q_343 q_344 rfl rfl (by decide) (by decide)) hl.1 rfl (lv_room (Nat.le_of_ble_eq_true rfl)) dX6_findFixed_27 (fun H locs hw => ?_)
    refine lv_iconst (v := Int32.ofInt (0)) hx hb dX6_findFixed_30 rfl ?_
    refine lv_istore_n (lv' := [(3, .int (Int32.ofInt (0))), (2, .int (Int32.ofInt v1)), (0, .ref (adr 4)), (1, .ref (adr a0))]) hx hb dX6_findFixed_31 rfl hl (by decide) rfl (fun ls hl => ?_)
    replace h := bnd h
    obtain ⟨M14, j13, h⟩ := h
    refine lp_W (Wst := fun (st : MI × Int) => ∀ (ls : Array Slot) (H : Heap) (locs : List Loc), lv_has ls 5 [(0, .ref (adr 4)), (2, .int (Int32.ofInt v1)), (3, .int (Int32.ofInt st.2))] → wH G A s.heap s (LL adr) (wf G adr (tm st.1)) H locs → W p l e { frames := 4, cells := 0, slots := 0, locals := 106 } s m args below meth c H locs 0 0 Q (F0 m 32 ls [])) (fin := fun (r : MI) => ∀ (ls : Array Slot) (H : Heap) (locs : List Loc), lv_has ls 5 [] → wH G A s.heap s (LL adr) (wf G adr (tm r)) H locs → W p l e { frames := 4, cells := 0, slots := 0, locals := 106 } s m args below meth c H locs 0 0 Q (F0 m 81 ls [])) ?_ n _ _ j13 ?_ _ _ _ (lv_sub hl [2, 1, 0] rfl) hw
    · clear h j13 hw hl
      intro ⟨M5, v6⟩ x h k1 k2 ls H locs hl hw
      (try dsimp only at k1 k2 hl hw ⊢)
      unfold l_X6_findFixed_32 at h
      (try dsimp only at h)
      refine lv_iload_n hx hb dX6_findFixed_32 rfl (lv_at hl 2 rfl) ?_
      refine lv_iload_n hx hb dX6_findFixed_33 rfl (lv_at hl 1 rfl) ?_
      replace h := bnd h
      obtain ⟨_, hg, h⟩ := h
      refine o_icmp_ge (tgt := 81) hx hb hg dX6_findFixed_34 (by decide) (fun hc => ?_) (fun hc => ?_)
      · replace h := ite_t hc h
        cases h
        exact k1 _ rfl _ _ _ (lv_sub hl [] rfl) hw
      · replace h := ite_f hc h
        refine lv_aload_n hx hb dX6_findFixed_37 rfl (lv_at hl 0 rfl) ?_
        refine lv_iload_n hx hb dX6_findFixed_38 rfl (lv_at hl 2 rfl) ?_
        refine lv_iload_n hx hb dX6_findFixed_39 rfl (lv_at hl 1 rfl) ?_
        replace h := bnd h
        obtain ⟨v7, e7, h⟩ := h
        refine m_callVi (k := 4) (As := [.int (Int32.ofInt v6), .int (Int32.ofInt v1)]) (rest := []) cx.fix hi hw (cc_X6_findPivot (l := l) (G := G) (sz := H.size) hi e7) (by decide) rfl rfl (w_cV 2 hts q_345 q_346 q_347 q_348 q_349 rfl rfl (by decide) (by decide)) hl.1 rfl (lv_room (Nat.le_of_ble_eq_true rfl)) dX6_findFixed_40 (fun H locs hw => ?_)
        refine lv_istore (lv' := [(4, .int (Int32.ofInt v7)), (0, .ref (adr 4)), (2, .int (Int32.ofInt v1)), (3, .int (Int32.ofInt v6))]) hx hb dX6_findFixed_43 hl (by decide) rfl (fun ls hl => ?_)
        refine lv_iload hx hb dX6_findFixed_45 (lv_at hl 0 rfl) ?_
        replace h := bnd h
        obtain ⟨M11, j12, h⟩ := h
        have kj : ∀ (ls : Array Slot) (H : Heap) (locs : List Loc), lv_has ls 5 [(0, .ref (adr 4)), (2, .int (Int32.ofInt v1)), (3, .int (Int32.ofInt v6))] → wH G A s.heap s (LL adr) (wf G adr (tm M11)) H locs → W p l e { frames := 4, cells := 0, slots := 0, locals := 106 } s m args below meth c H locs 0 0 Q (F0 m 75 ls []) := by
          intro ls H locs hl hw
          refine lv_iinc (v := Int32.ofInt (v6 + 1)) (lv' := [(3, .int (Int32.ofInt (v6 + 1))), (0, .ref (adr 4)), (2, .int (Int32.ofInt v1))]) hx hb dX6_findFixed_75 hl (k := 2) rfl (inc_o _ _) (by decide) rfl (fun ls hl => ?_)
          refine lv_goto (tgt := 32) hx hb dX6_findFixed_78 (by decide) ?_
          cases h
          exact k2 _ rfl _ _ _ (lv_sub hl [1, 2, 0] rfl) hw
        clear h
        replace h := j12
        clear j12
        replace h := bnd h
        obtain ⟨_, hg, h⟩ := h
        refine o_if_ge (tgt := 59) hx hb hg dX6_findFixed_47 (by decide) (fun hc => ?_) (fun hc => ?_)
        · replace h := ite_t hc h
          refine lv_aload_n hx hb dX6_findFixed_59 rfl (lv_at hl 1 rfl) ?_
          refine lv_iload_n hx hb dX6_findFixed_60 rfl (lv_at hl 3 rfl) ?_
          refine lv_iload hx hb dX6_findFixed_61 (lv_at hl 0 rfl) ?_
          refine lv_iload_n hx hb dX6_findFixed_63 rfl (lv_at hl 2 rfl) ?_
          replace h := bnd h
          obtain ⟨v8, e8, h⟩ := h
          refine m_callVv (k := 4) (As := [.int (Int32.ofInt v6), .int (Int32.ofInt v7), .int (Int32.ofInt v1)]) (rest := []) cx.fix hi hw (cc_X6_clearRow (l := l) (G := G) (sz := H.size) hi e8) (by decide) rfl rfl (w_cV 3 hts q_350 q_351 q_352 q_353 q_354 rfl rfl (by decide) (by decide)) hl.1 rfl (lv_room (Nat.le_of_ble_eq_true rfl)) dX6_findFixed_64 (fun H locs hw => ?_)
          refine lv_aload_n hx hb dX6_findFixed_67 rfl (lv_at hl 1 rfl) ?_
          refine m_get (k := 4) (C := RX6) (T := TX6) (N := 9) (ref := "LiftFactors$Splitter") (v := .ref (adr 23)) hx hb hi hts inX6_u hown hw (by decide) rfl 6 (by decide) q_331 rfl rfl dX6_findFixed_68 ?_
          refine lv_iload hx hb dX6_findFixed_71 (lv_at hl 0 rfl) ?_
          refine lv_iload_n hx hb dX6_findFixed_73 rfl (lv_at hl 3 rfl) ?_
          replace h := bnd h
          obtain ⟨v9, e9, h⟩ := h
          refine o_iast hx hb hi hw e9 dX6_findFixed_74 (fun H locs hw => ?_)
          cases h
          exact kj _ _ _ (lv_sub hl [1, 2, 3] rfl) hw
        · replace h := ite_f hc h
          refine lv_aload_n hx hb dX6_findFixed_50 rfl (lv_at hl 1 rfl) ?_
          refine lv_iload_n hx hb dX6_findFixed_51 rfl (lv_at hl 3 rfl) ?_
          refine lv_iload_n hx hb dX6_findFixed_52 rfl (lv_at hl 2 rfl) ?_
          replace h := bnd h
          obtain ⟨v10, e10, h⟩ := h
          refine m_callVv (k := 4) (As := [.int (Int32.ofInt v6), .int (Int32.ofInt v1)]) (rest := []) cx.fix hi hw (cc_X6_addFixed (l := l) (G := G) (sz := H.size) hi e10) (by decide) rfl rfl (w_cV 2 hts q_355 q_356 q_357 q_358 q_359 rfl rfl (by decide) (by decide)) hl.1 rfl (lv_room (Nat.le_of_ble_eq_true rfl)) dX6_findFixed_53 (fun H locs hw => ?_)
          refine lv_goto (tgt := 75) hx hb dX6_findFixed_56 (by decide) ?_
          cases h
          exact kj _ _ _ (lv_sub hl [1, 2, 3] rfl) hw
    · clear hw hl
      intro ls H locs hl hw
      (try dsimp only at hl hw ⊢)
      cases h
      exact kr _ _ _ _ dX6_findFixed_81 hw
  · replace h := ite_f hc h
    cases h
    exact kr _ _ _ _ dX6_findFixed_15 hw
theorem cc_X6_findFixed {l : Launch} {G : gG} {adr : Nat → Nat} {sz : Nat} (hi : adi adr) {n : Nat} {a0 : Nat} {M M' : MI} (h : f_X6_findFixed n a0 M = some M') : mV l yX6_findFixed cX6_findFixed 5 none { frames := 4, cells := 0, slots := 0, locals := 106 } G adr [.ref (adr 4), .ref (adr a0)] (tm M) sz (tm M') := by
  refine wEnter (by decide) (Nat.le_of_ble_eq_true rfl) ?_
  intro p e s m below meth c ls cx hinit hl hsz hw
  exact b_X6_findFixed cx hi h (fun pc ls H locs hd hw => w_vret (post := fun (u : Mem) => u = tm M') (lf := fun u => (LL adr, wf G adr u)) cx.1 cx.2.1 cx.2.2.1 cx.2.2.2.2.2.2 (tm M') hw rfl hd) hl hw
theorem q_360 : Cond.constantLong RX6 111 (2) ∈ uU := uU_in (by decide +kernel) (by decide +kernel)
theorem q_361 : Cond.methodLink RX6 113 yX3_commonDivisor ∈ uU := uU_in (by decide +kernel) (by decide +kernel)
theorem q_362 : Cond.instanceMethod yX3_commonDivisor ∈ uU := uU_in (by decide +kernel) (by decide +kernel)
theorem q_363 : Cond.selects yX3_commonDivisor.cls yX3_commonDivisor yX3_commonDivisor ∈ uU := uU_in (by decide +kernel) (by decide +kernel)
theorem q_364 : Cond.initialized yX3_commonDivisor.cls ∈ uU := uU_in (by decide +kernel) (by decide +kernel)
theorem q_365 : Cond.code yX3_commonDivisor cX3_commonDivisor 8 none ∈ uU := uU_in (by decide +kernel) (by decide +kernel)
theorem q_366 : Cond.fieldLink RX6 16 "LiftFactors$Splitter" "pieceCount" "I" ∈ uU := uU_in (by decide +kernel) (by decide +kernel)
theorem q_367 : Cond.fieldLink RX6 117 "LiftFactors$Field" "quotient" "[J" ∈ uU := uU_in (by decide +kernel) (by decide +kernel)
theorem q_368 : Cond.fieldLink RX6 11 "LiftFactors$Splitter" "pieces" "[[J" ∈ uU := uU_in (by decide +kernel) (by decide +kernel)
def f_X6_splitPiece (n : Nat) (a0 : Nat) (a1 : Nat) (a2 : Int) (M : MI) : Option MI :=
  Option.bind (f_X5_copy a1 24 M) fun v1 =>
  Option.bind (f_X3_divide n 24 a0 v1) fun v2 =>
  Option.bind (f_X5_degree n 24 v2) fun v3 =>
  Option.bind (gI v3 (1)) fun _ =>
  if (1) ≤ v3 then
    Option.bind (f_X5_degree n a0 v2) fun v4 =>
    Option.bind (odJ v2 24 (0)) fun v5 =>
    Option.bind (gI a2 0) fun v6 =>
    Option.bind (orJ (v5 + a2) (v2.1 1 0)) fun v7 =>
    Option.bind (osJ v2 24 (0) v7) fun v8 =>
    Option.bind (oqJ ((v8.1 1 0) - (1)) (2)) fun v9 =>
    Option.bind (f_X3_raise n 24 v9 a0 v4 25 v8) fun v10 =>
    Option.bind (odJ v10 25 (0)) fun v11 =>
    Option.bind (f_J9_floorMod_f86c9 (v11 - (1)) (v10.1 1 0)) fun v12 =>
    Option.bind (osJ v10 25 (0) v12) fun v13 =>
    Option.bind (f_X3_commonDivisor n a0 25 25 v13) fun v14 =>
    Option.bind (f_X5_degree n 25 v14) fun v15 =>
    Option.bind (gI v15 (1)) fun _ =>
    if v15 < (1) then
      some v14
    else
      Option.bind (gI v15 v4) fun _ =>
      if v4 ≤ v15 then
        some v14
      else
        Option.bind (gI (v14.2 4 1) (10)) fun _ =>
        if (v14.2 4 1) < (10) then
          Option.bind (f_X5_copy a0 24 v14) fun v16 =>
          Option.bind (f_X3_divide n 24 25 v16) fun v17 =>
          Option.bind (f_X5_copy 14 a0 v17) fun v18 =>
          Option.bind (odA 20 (v18.2 4 1)) fun v19 =>
          Option.bind (f_X5_copy 25 v19 v18) fun v20 =>
          Option.bind (opI v20 4 1 ((v20.2 4 1) + (1))) fun v21 =>
          some v21
        else
          some v14
  else
    some v2
set_option maxRecDepth 100000 in
set_option maxHeartbeats 8000000 in
theorem b_X6_splitPiece {p : Program} {l : Launch} {e : Env} {s : State} {m : MethodId} {args : Array Value} {below : List Frame} {meth : Method} {c : Code} {Q : State → Prop} {G : gG} {A : Nat → Prop} {adr : Nat → Nat} (cx : cX p s m args meth c cX6_splitPiece none 6 yX6_splitPiece.cls) (hi : adi adr) {n : Nat} {a0 : Nat} {a1 : Nat} {a2 : Int} {M M' : MI} 
    (h : f_X6_splitPiece n a0 a1 a2 M = some M')
    (kr : ∀ (pc : Nat) (ls : Array Slot) (H : Heap) (locs : List Loc), decode cX6_splitPiece pc = .ok (.return_, 1) → wH G A s.heap s (LL adr) (wf G adr (tm M')) H locs → W p l e { frames := 4, cells := 0, slots := 0, locals := 104 } s m args below meth c H locs 0 0 Q (F0 m pc ls []))
    {ls : Array Slot} {H : Heap} {locs : List Loc} (hl : lv_has ls 6 [(0, .ref (adr 4)), (1, .ref (adr a0)), (2, .ref (adr a1)), (3, .int (Int32.ofInt a2))]) (hw : wH G A s.heap s (LL adr) (wf G adr (tm M)) H locs) : W p l e { frames := 4, cells := 0, slots := 0, locals := 104 } s m args below meth c H locs 0 0 Q (F0 m 0 ls []) := by
  obtain ⟨hx, hb, -, -, hown, hts, -⟩ := id cx
  have hown : s.vm.findClass RX6 = some m.cls := hown
  unfold f_X6_splitPiece at h
  refine lv_aload_n hx hb dX6_splitPiece_0 rfl (lv_at hl 2 rfl) ?_
  refine lv_aload_n hx hb dX6_splitPiece_1 rfl (lv_at hl 0 rfl) ?_
  refine m_get (k := 4) (C := RX6) (T := TX6) (N := 9) (ref := "LiftFactors$Splitter") (v := .ref (adr 24)) hx hb hi hts inX6_u hown hw (by decide) rfl 7 (by decide) q_316 rfl rfl dX6_splitPiece_2 ?_
  replace h := bnd h
  obtain ⟨v1, e1, h⟩ := h
  refine m_callSv (As := [.ref (adr a1), .ref (adr 24)]) (rest := []) cx.fix hw (cc_X5_copy (l := l) (G := G) (sz := H.size) hi e1) (w_cS 2 hts q_328 q_260 q_261 q_262 rfl rfl (by decide) (by decide)) hl.1 rfl (lv_room (Nat.le_of_ble_eq_true rfl)) dX6_splitPiece_5 (fun H locs hw => ?_)
  refine lv_aload_n hx hb dX6_splitPiece_8 rfl (lv_at hl 0 rfl) ?_
  refine m_get (k := 4) (C := RX6) (T := TX6) (N := 9) (ref := "LiftFactors$Splitter") (v := .ref (adr 1)) hx hb hi hts inX6_u hown hw (by decide) rfl 3 (by decide) q_318 rfl rfl dX6_splitPiece_9 ?_
  refine lv_aload_n hx hb dX6_splitPiece_12 rfl (lv_at hl 0 rfl) ?_
  refine m_get (k := 4) (C := RX6) (T := TX6) (N := 9) (ref := "LiftFactors$Splitter") (v := .ref (adr 24)) hx hb hi hts inX6_u hown hw (by decide) rfl 7 (by decide) q_316 rfl rfl dX6_splitPiece_13 ?_
  refine lv_aload_n hx hb dX6_splitPiece_16 rfl (lv_at hl 1 rfl) ?_
  replace h := bnd h
  obtain ⟨v2, e2, h⟩ := h
  refine m_callVv (k := 1) (As := [.ref (adr 24), .ref (adr a0)]) (rest := []) cx.fix hi hw (cc_X3_divide (l := l) (G := G) (sz := H.size) hi e2) (by decide) rfl rfl (w_cV 2 hts q_319 q_296 q_297 q_298 q_299 rfl rfl (by decide) (by decide)) hl.1 rfl (lv_room (Nat.le_of_ble_eq_true rfl)) dX6_splitPiece_17 (fun H locs hw => ?_)
  refine lv_aload_n hx hb dX6_splitPiece_20 rfl (lv_at hl 0 rfl) ?_
  refine m_get (k := 4) (C := RX6) (T := TX6) (N := 9) (ref := "LiftFactors$Splitter") (v := .ref (adr 24)) hx hb hi hts inX6_u hown hw (by decide) rfl 7 (by decide) q_316 rfl rfl dX6_splitPiece_21 ?_
  replace h := bnd h
  obtain ⟨v3, e3, h⟩ := h
  refine m_callSi (As := [.ref (adr 24)]) (rest := []) cx.fix hw (cc_X5_degree (l := l) (G := G) (sz := H.size) hi e3) (w_cS 1 hts q_335 q_246 q_247 q_248 rfl rfl (by decide) (by decide)) hl.1 rfl (lv_room (Nat.le_of_ble_eq_true rfl)) dX6_splitPiece_24 (fun H locs hw => ?_)
  refine lv_iconst (v := Int32.ofInt (1)) hx hb dX6_splitPiece_27 rfl ?_
  replace h := bnd h
  obtain ⟨_, hg, h⟩ := h
  refine o_icmp_ge (tgt := 32) hx hb hg dX6_splitPiece_28 (by decide) (fun hc => ?_) (fun hc => ?_)
  · replace h := ite_t hc h
    refine lv_aload_n hx hb dX6_splitPiece_32 rfl (lv_at hl 1 rfl) ?_
    replace h := bnd h
    obtain ⟨v4, e4, h⟩ := h
    refine m_callSi (As := [.ref (adr a0)]) (rest := []) cx.fix hw (cc_X5_degree (l := l) (G := G) (sz := H.size) hi e4) (w_cS 1 hts q_335 q_246 q_247 q_248 rfl rfl (by decide) (by decide)) hl.1 rfl (lv_room (Nat.le_of_ble_eq_true rfl)) dX6_splitPiece_33 (fun H locs hw => ?_)
    refine lv_istore (lv' := [(4, .int (Int32.ofInt v4)), (0, .ref (adr 4)), (1, .ref (adr a0)), (2, .ref (adr a1)), (3, .int (Int32.ofInt a2))]) hx hb dX6_splitPiece_36 hl (by decide) rfl (fun ls hl => ?_)
    refine lv_aload_n hx hb dX6_splitPiece_38 rfl (lv_at hl 1 rfl) ?_
    refine m_get (k := 4) (C := RX6) (T := TX6) (N := 9) (ref := "LiftFactors$Splitter") (v := .ref (adr 24)) hx hb hi hts inX6_u hown hw (by decide) rfl 7 (by decide) q_316 rfl rfl dX6_splitPiece_39 ?_
    refine lv_iconst (v := Int32.ofInt (0)) hx hb dX6_splitPiece_42 rfl ?_
    refine lv_aload_n hx hb dX6_splitPiece_43 rfl (lv_at hl 1 rfl) ?_
    refine m_get (k := 4) (C := RX6) (T := TX6) (N := 9) (ref := "LiftFactors$Splitter") (v := .ref (adr 24)) hx hb hi hts inX6_u hown hw (by decide) rfl 7 (by decide) q_316 rfl rfl dX6_splitPiece_44 ?_
    refine lv_iconst (v := Int32.ofInt (0)) hx hb dX6_splitPiece_47 rfl ?_
    replace h := bnd h
    obtain ⟨v5, e5, h⟩ := h
    refine o_lald hx hb hi hw e5 dX6_splitPiece_48 ?_
    refine lv_iload_n hx hb dX6_splitPiece_49 rfl (lv_at hl 4 rfl) ?_
    replace h := bnd h
    obtain ⟨v6, e6, h⟩ := h
    refine o_i2l hx hb e6 dX6_splitPiece_50 ?_
    refine o_ladd hx hb dX6_splitPiece_51 ?_
    refine lv_aload_n hx hb dX6_splitPiece_52 rfl (lv_at hl 1 rfl) ?_
    refine m_get (k := 4) (C := RX6) (T := TX6) (N := 9) (ref := "LiftFactors$Splitter") (v := .ref (adr 1)) hx hb hi hts inX6_u hown hw (by decide) rfl 3 (by decide) q_318 rfl rfl dX6_splitPiece_53 ?_
    refine m_get (k := 1) (C := RX3) (T := TX3) (N := 5) (ref := "LiftFactors$Field") (v := .long (Int64.ofInt (v2.1 1 0))) hx hb hi hts inX3_u hown hw (by decide) rfl 0 (by decide) q_320 rfl rfl dX6_splitPiece_56 ?_
    replace h := bnd h
    obtain ⟨v7, e7, h⟩ := h
    refine o_lrem hx hb e7 dX6_splitPiece_59 ?_
    replace h := bnd h
    obtain ⟨v8, e8, h⟩ := h
    refine o_last hx hb hi hw e8 dX6_splitPiece_60 (fun H locs hw => ?_)
    refine lv_aload_n hx hb dX6_splitPiece_61 rfl (lv_at hl 1 rfl) ?_
    refine m_get (k := 4) (C := RX6) (T := TX6) (N := 9) (ref := "LiftFactors$Splitter") (v := .ref (adr 1)) hx hb hi hts inX6_u hown hw (by decide) rfl 3 (by decide) q_318 rfl rfl dX6_splitPiece_62 ?_
    refine lv_aload_n hx hb dX6_splitPiece_65 rfl (lv_at hl 1 rfl) ?_
    refine m_get (k := 4) (C := RX6) (T := TX6) (N := 9) (ref := "LiftFactors$Splitter") (v := .ref (adr 24)) hx hb hi hts inX6_u hown hw (by decide) rfl 7 (by decide) q_316 rfl rfl dX6_splitPiece_66 ?_
    refine lv_aload_n hx hb dX6_splitPiece_69 rfl (lv_at hl 1 rfl) ?_
    refine m_get (k := 4) (C := RX6) (T := TX6) (N := 9) (ref := "LiftFactors$Splitter") (v := .ref (adr 1)) hx hb hi hts inX6_u hown hw (by decide) rfl 3 (by decide) q_318 rfl rfl dX6_splitPiece_70 ?_
    refine m_get (k := 1) (C := RX3) (T := TX3) (N := 5) (ref := "LiftFactors$Field") (v := .long (Int64.ofInt (v8.1 1 0))) hx hb hi hts inX3_u hown hw (by decide) rfl 0 (by decide) q_320 rfl rfl dX6_splitPiece_73 ?_
    refine lv_lconst (v := Int64.ofInt (1)) hx hb dX6_splitPiece_76 (by decide) ?_
    refine o_lsub hx hb dX6_splitPiece_77 ?_
    refine lv_ldc2 (v := Int64.ofInt (2)) hx hb hown (hts _ q_360) dX6_splitPiece_78 ?_
    replace h := bnd h
    obtain ⟨v9, e9, h⟩ := h
    refine o_ldiv hx hb e9 dX6_splitPiece_81 ?_
    refine lv_aload_n hx hb dX6_splitPiece_82 rfl (lv_at hl 2 rfl) ?_
    refine lv_iload hx hb dX6_splitPiece_83 (lv_at hl 0 rfl) ?_
    refine lv_aload_n hx hb dX6_splitPiece_85 rfl (lv_at hl 1 rfl) ?_
    refine m_get (k := 4) (C := RX6) (T := TX6) (N := 9) (ref := "LiftFactors$Splitter") (v := .ref (adr 25)) hx hb hi hts inX6_u hown hw (by decide) rfl 8 (by decide) q_321 rfl rfl dX6_splitPiece_86 ?_
    replace h := bnd h
    obtain ⟨v10, e10, h⟩ := h
    refine m_callVv (k := 1) (As := [.ref (adr 24), .long (Int64.ofInt v9), .ref (adr a0), .int (Int32.ofInt v4), .ref (adr 25)]) (rest := []) cx.fix hi hw (cc_X3_raise (l := l) (G := G) (sz := H.size) hi e10) (by decide) rfl rfl (w_cV 5 hts q_322 q_323 q_324 q_325 q_326 rfl rfl (by decide) (by decide)) hl.1 rfl (lv_room (Nat.le_of_ble_eq_true rfl)) dX6_splitPiece_89 (fun H locs hw => ?_)
    refine lv_aload_n hx hb dX6_splitPiece_92 rfl (lv_at hl 1 rfl) ?_
    refine m_get (k := 4) (C := RX6) (T := TX6) (N := 9) (ref := "LiftFactors$Splitter") (v := .ref (adr 25)) hx hb hi hts inX6_u hown hw (by decide) rfl 8 (by decide) q_321 rfl rfl dX6_splitPiece_93 ?_
    refine lv_iconst (v := Int32.ofInt (0)) hx hb dX6_splitPiece_96 rfl ?_
    refine lv_aload_n hx hb dX6_splitPiece_97 rfl (lv_at hl 1 rfl) ?_
    refine m_get (k := 4) (C := RX6) (T := TX6) (N := 9) (ref := "LiftFactors$Splitter") (v := .ref (adr 25)) hx hb hi hts inX6_u hown hw (by decide) rfl 8 (by decide) q_321 rfl rfl dX6_splitPiece_98 ?_
    refine lv_iconst (v := Int32.ofInt (0)) hx hb dX6_splitPiece_101 rfl ?_
    replace h := bnd h
    obtain ⟨v11, e11, h⟩ := h
    refine o_lald hx hb hi hw e11 dX6_splitPiece_102 ?_
    refine lv_lconst (v := Int64.ofInt (1)) hx hb dX6_splitPiece_103 (by decide) ?_
    refine o_lsub hx hb dX6_splitPiece_104 ?_
    refine lv_aload_n hx hb dX6_splitPiece_105 rfl (lv_at hl 1 rfl) ?_
    refine m_get (k := 4) (C := RX6) (T := TX6) (N := 9) (ref := "LiftFactors$Splitter") (v := .ref (adr 1)) hx hb hi hts inX6_u hown hw (by decide) rfl 3 (by decide) q_318 rfl rfl dX6_splitPiece_106 ?_
    refine m_get (k := 1) (C := RX3) (T := TX3) (N := 5) (ref := "LiftFactors$Field") (v := .long (Int64.ofInt (v10.1 1 0))) hx hb hi hts inX3_u hown hw (by decide) rfl 0 (by decide) q_320 rfl rfl dX6_splitPiece_109 ?_
    replace h := bnd h
    obtain ⟨v12, e12, h⟩ := h
    refine m_callSl (As := [.long (Int64.ofInt (v11 - (1))), .long (Int64.ofInt (v10.1 1 0))]) (rest := [.int (Int32.ofInt (0)), .ref (adr 25)]) cx.fix hw (cc_J9_floorMod_f86c9 (l := l) (G := G) (sz := H.size) (M := v10) hi e12) (w_cS 2 hts q_329 q_277 q_278 q_279 rfl rfl (by decide) (by decide)) hl.1 rfl (lv_room (Nat.le_of_ble_eq_true rfl)) dX6_splitPiece_112 (fun H locs hw => ?_)
    replace h := bnd h
    obtain ⟨v13, e13, h⟩ := h
    refine o_last hx hb hi hw e13 dX6_splitPiece_115 (fun H locs hw => ?_)
    refine lv_aload_n hx hb dX6_splitPiece_116 rfl (lv_at hl 1 rfl) ?_
    refine m_get (k := 4) (C := RX6) (T := TX6) (N := 9) (ref := "LiftFactors$Splitter") (v := .ref (adr 1)) hx hb hi hts inX6_u hown hw (by decide) rfl 3 (by decide) q_318 rfl rfl dX6_splitPiece_117 ?_
    refine lv_aload_n hx hb dX6_splitPiece_120 rfl (lv_at hl 2 rfl) ?_
    refine lv_aload_n hx hb dX6_splitPiece_121 rfl (lv_at hl 1 rfl) ?_
    refine m_get (k := 4) (C := RX6) (T := TX6) (N := 9) (ref := "LiftFactors$Splitter") (v := .ref (adr 25)) hx hb hi hts inX6_u hown hw (by decide) rfl 8 (by decide) q_321 rfl rfl dX6_splitPiece_122 ?_
    refine lv_aload_n hx hb dX6_splitPiece_125 rfl (lv_at hl 1 rfl) ?_
    refine m_get (k := 4) (C := RX6) (T := TX6) (N := 9) (ref := "LiftFactors$Splitter") (v := .ref (adr 25)) hx hb hi hts inX6_u hown hw (by decide) rfl 8 (by decide) q_321 rfl rfl dX6_splitPiece_126 ?_
    replace h := bnd h
    obtain ⟨v14, e14, h⟩ := h
    refine m_callVv (k := 1) (As := [.ref (adr a0), .ref (adr 25), .ref (adr 25)]) (rest := []) cx.fix hi hw (cc_X3_commonDivisor (l := l) (G := G) (sz := H.size) hi e14) (by decide) rfl rfl (w_cV 3 hts q_361 q_362 q_363 q_364 q_365 rfl rfl (by decide) (by decide)) hl.1 rfl (lv_room (Nat.le_of_ble_eq_true rfl)) dX6_splitPiece_129 (fun H locs hw => ?_)
    refine lv_aload_n hx hb dX6_splitPiece_132 rfl (lv_at hl 1 rfl) ?_
    refine m_get (k := 4) (C := RX6) (T := TX6) (N := 9) (ref := "LiftFactors$Splitter") (v := .ref (adr 25)) hx hb hi hts inX6_u hown hw (by decide) rfl 8 (by decide) q_321 rfl rfl dX6_splitPiece_133 ?_
    replace h := bnd h
    obtain ⟨v15, e15, h⟩ := h
    refine m_callSi (As := [.ref (adr 25)]) (rest := []) cx.fix hw (cc_X5_degree (l := l) (G := G) (sz := H.size) hi e15) (w_cS 1 hts q_335 q_246 q_247 q_248 rfl rfl (by decide) (by decide)) hl.1 rfl (lv_room (Nat.le_of_ble_eq_true rfl)) dX6_splitPiece_136 (fun H locs hw => ?_)
    refine lv_istore (lv' := [(5, .int (Int32.ofInt v15)), (4, .int (Int32.ofInt v4)), (0, .ref (adr 4)), (1, .ref (adr a0)), (2, .ref (adr a1)), (3, .int (Int32.ofInt a2))]) hx hb dX6_splitPiece_139 hl (by decide) rfl (fun ls hl => ?_)
    refine lv_iload hx hb dX6_splitPiece_141 (lv_at hl 0 rfl) ?_
    refine lv_iconst (v := Int32.ofInt (1)) hx hb dX6_splitPiece_143 rfl ?_
    replace h := bnd h
    obtain ⟨_, hg, h⟩ := h
    refine o_icmp_lt (tgt := 163) hx hb hg dX6_splitPiece_144 (by decide) (fun hc => ?_) (fun hc => ?_)
    · replace h := ite_t hc h
      cases h
      exact kr _ _ _ _ dX6_splitPiece_163 hw
    · replace h := ite_f hc h
      refine lv_iload hx hb dX6_splitPiece_147 (lv_at hl 0 rfl) ?_
      refine lv_iload hx hb dX6_splitPiece_149 (lv_at hl 1 rfl) ?_
      replace h := bnd h
      obtain ⟨_, hg, h⟩ := h
      refine o_icmp_ge (tgt := 163) hx hb hg dX6_splitPiece_151 (by decide) (fun hc => ?_) (fun hc => ?_)
      · replace h := ite_t hc h
        cases h
        exact kr _ _ _ _ dX6_splitPiece_163 hw
      · replace h := ite_f hc h
        refine lv_aload_n hx hb dX6_splitPiece_154 rfl (lv_at hl 2 rfl) ?_
        refine m_get (k := 4) (C := RX6) (T := TX6) (N := 9) (ref := "LiftFactors$Splitter") (v := .int (Int32.ofInt (v14.2 4 1))) hx hb hi hts inX6_u hown hw (by decide) rfl 1 (by decide) q_366 rfl rfl dX6_splitPiece_155 ?_
        refine lv_bipush (v := Int32.ofInt (10)) hx hb dX6_splitPiece_158 rfl ?_
        replace h := bnd h
        obtain ⟨_, hg, h⟩ := h
        refine o_icmp_lt (tgt := 164) hx hb hg dX6_splitPiece_160 (by decide) (fun hc => ?_) (fun hc => ?_)
        · replace h := ite_t hc h
          refine lv_aload_n hx hb dX6_splitPiece_164 rfl (lv_at hl 3 rfl) ?_
          refine lv_aload_n hx hb dX6_splitPiece_165 rfl (lv_at hl 2 rfl) ?_
          refine m_get (k := 4) (C := RX6) (T := TX6) (N := 9) (ref := "LiftFactors$Splitter") (v := .ref (adr 24)) hx hb hi hts inX6_u hown hw (by decide) rfl 7 (by decide) q_316 rfl rfl dX6_splitPiece_166 ?_
          replace h := bnd h
          obtain ⟨v16, e16, h⟩ := h
          refine m_callSv (As := [.ref (adr a0), .ref (adr 24)]) (rest := []) cx.fix hw (cc_X5_copy (l := l) (G := G) (sz := H.size) hi e16) (w_cS 2 hts q_328 q_260 q_261 q_262 rfl rfl (by decide) (by decide)) hl.1 rfl (lv_room (Nat.le_of_ble_eq_true rfl)) dX6_splitPiece_169 (fun H locs hw => ?_)
          refine lv_aload_n hx hb dX6_splitPiece_172 rfl (lv_at hl 2 rfl) ?_
          refine m_get (k := 4) (C := RX6) (T := TX6) (N := 9) (ref := "LiftFactors$Splitter") (v := .ref (adr 1)) hx hb hi hts inX6_u hown hw (by decide) rfl 3 (by decide) q_318 rfl rfl dX6_splitPiece_173 ?_
          refine lv_aload_n hx hb dX6_splitPiece_176 rfl (lv_at hl 2 rfl) ?_
          refine m_get (k := 4) (C := RX6) (T := TX6) (N := 9) (ref := "LiftFactors$Splitter") (v := .ref (adr 24)) hx hb hi hts inX6_u hown hw (by decide) rfl 7 (by decide) q_316 rfl rfl dX6_splitPiece_177 ?_
          refine lv_aload_n hx hb dX6_splitPiece_180 rfl (lv_at hl 2 rfl) ?_
          refine m_get (k := 4) (C := RX6) (T := TX6) (N := 9) (ref := "LiftFactors$Splitter") (v := .ref (adr 25)) hx hb hi hts inX6_u hown hw (by decide) rfl 8 (by decide) q_321 rfl rfl dX6_splitPiece_181 ?_
          replace h := bnd h
          obtain ⟨v17, e17, h⟩ := h
          refine m_callVv (k := 1) (As := [.ref (adr 24), .ref (adr 25)]) (rest := []) cx.fix hi hw (cc_X3_divide (l := l) (G := G) (sz := H.size) hi e17) (by decide) rfl rfl (w_cV 2 hts q_319 q_296 q_297 q_298 q_299 rfl rfl (by decide) (by decide)) hl.1 rfl (lv_room (Nat.le_of_ble_eq_true rfl)) dX6_splitPiece_184 (fun H locs hw => ?_)
          refine lv_aload_n hx hb dX6_splitPiece_187 rfl (lv_at hl 2 rfl) ?_
          refine m_get (k := 4) (C := RX6) (T := TX6) (N := 9) (ref := "LiftFactors$Splitter") (v := .ref (adr 1)) hx hb hi hts inX6_u hown hw (by decide) rfl 3 (by decide) q_318 rfl rfl dX6_splitPiece_188 ?_
          refine m_get (k := 1) (C := RX3) (T := TX3) (N := 5) (ref := "LiftFactors$Field") (v := .ref (adr 14)) hx hb hi hts inX3_u hown hw (by decide) rfl 1 (by decide) q_367 rfl rfl dX6_splitPiece_191 ?_
          refine lv_aload_n hx hb dX6_splitPiece_194 rfl (lv_at hl 3 rfl) ?_
          replace h := bnd h
          obtain ⟨v18, e18, h⟩ := h
          refine m_callSv (As := [.ref (adr 14), .ref (adr a0)]) (rest := []) cx.fix hw (cc_X5_copy (l := l) (G := G) (sz := H.size) hi e18) (w_cS 2 hts q_328 q_260 q_261 q_262 rfl rfl (by decide) (by decide)) hl.1 rfl (lv_room (Nat.le_of_ble_eq_true rfl)) dX6_splitPiece_195 (fun H locs hw => ?_)
          refine lv_aload_n hx hb dX6_splitPiece_198 rfl (lv_at hl 2 rfl) ?_
          refine m_get (k := 4) (C := RX6) (T := TX6) (N := 9) (ref := "LiftFactors$Splitter") (v := .ref (adr 25)) hx hb hi hts inX6_u hown hw (by decide) rfl 8 (by decide) q_321 rfl rfl dX6_splitPiece_199 ?_
          refine lv_aload_n hx hb dX6_splitPiece_202 rfl (lv_at hl 2 rfl) ?_
          refine m_get (k := 4) (C := RX6) (T := TX6) (N := 9) (ref := "LiftFactors$Splitter") (v := .ref (adr 20)) hx hb hi hts inX6_u hown hw (by decide) rfl 0 (by decide) q_368 rfl rfl dX6_splitPiece_203 ?_
          refine lv_aload_n hx hb dX6_splitPiece_206 rfl (lv_at hl 2 rfl) ?_
          refine m_get (k := 4) (C := RX6) (T := TX6) (N := 9) (ref := "LiftFactors$Splitter") (v := .int (Int32.ofInt (v18.2 4 1))) hx hb hi hts inX6_u hown hw (by decide) rfl 1 (by decide) q_366 rfl rfl dX6_splitPiece_207 ?_
          replace h := bnd h
          obtain ⟨v19, e19, h⟩ := h
          refine o_aald hx hb hi hw e19 dX6_splitPiece_210 ?_
          replace h := bnd h
          obtain ⟨v20, e20, h⟩ := h
          refine m_callSv (As := [.ref (adr 25), .ref (adr v19)]) (rest := []) cx.fix hw (cc_X5_copy (l := l) (G := G) (sz := H.size) hi e20) (w_cS 2 hts q_328 q_260 q_261 q_262 rfl rfl (by decide) (by decide)) hl.1 rfl (lv_room (Nat.le_of_ble_eq_true rfl)) dX6_splitPiece_211 (fun H locs hw => ?_)
          refine lv_aload_n hx hb dX6_splitPiece_214 rfl (lv_at hl 2 rfl) ?_
          refine lv_dup hx hb dX6_splitPiece_215 rfl ?_
          refine m_get (k := 4) (C := RX6) (T := TX6) (N := 9) (ref := "LiftFactors$Splitter") (v := .int (Int32.ofInt (v20.2 4 1))) hx hb hi hts inX6_u hown hw (by decide) rfl 1 (by decide) q_366 rfl rfl dX6_splitPiece_216 ?_
          refine lv_iconst (v := Int32.ofInt (1)) hx hb dX6_splitPiece_219 rfl ?_
          refine o_iadd hx hb dX6_splitPiece_220 ?_
          replace h := bnd h
          obtain ⟨v21, e21, h⟩ := h
          refine o_putI (k := 4) (C := RX6) (T := TX6) (N := 9) (ref := "LiftFactors$Splitter") hx hb hi hts inX6_u tyX6 tyX6_ok nmX6 hown hw (by decide) rfl 1 (by decide) q_366 rfl rfl e21 (by decide +kernel) rfl dX6_splitPiece_221 (fun H locs hw => ?_)
          cases h
          exact kr _ _ _ _ dX6_splitPiece_224 hw
        · replace h := ite_f hc h
          cases h
          exact kr _ _ _ _ dX6_splitPiece_163 hw
  · replace h := ite_f hc h
    cases h
    exact kr _ _ _ _ dX6_splitPiece_31 hw
theorem cc_X6_splitPiece {l : Launch} {G : gG} {adr : Nat → Nat} {sz : Nat} (hi : adi adr) {n : Nat} {a0 : Nat} {a1 : Nat} {a2 : Int} {M M' : MI} (h : f_X6_splitPiece n a0 a1 a2 M = some M') : mV l yX6_splitPiece cX6_splitPiece 6 none { frames := 4, cells := 0, slots := 0, locals := 104 } G adr [.ref (adr 4), .ref (adr a0), .ref (adr a1), .int (Int32.ofInt a2)] (tm M) sz (tm M') := by
  refine wEnter (by decide) (Nat.le_of_ble_eq_true rfl) ?_
  intro p e s m below meth c ls cx hinit hl hsz hw
  exact b_X6_splitPiece cx hi h (fun pc ls H locs hd hw => w_vret (post := fun (u : Mem) => u = tm M') (lf := fun u => (LL adr, wf G adr u)) cx.1 cx.2.1 cx.2.2.1 cx.2.2.2.2.2.2 (tm M') hw rfl hd) hl hw
theorem q_369 : Cond.constant RX6 106 (1000000) ∈ uU := uU_in (by decide +kernel) (by decide +kernel)
theorem q_370 : Cond.methodLink RX6 107 yX6_splitPiece ∈ uU := uU_in (by decide +kernel) (by decide +kernel)
theorem q_371 : Cond.instanceMethod yX6_splitPiece ∈ uU := uU_in (by decide +kernel) (by decide +kernel)
theorem q_372 : Cond.selects yX6_splitPiece.cls yX6_splitPiece yX6_splitPiece ∈ uU := uU_in (by decide +kernel) (by decide +kernel)
theorem q_373 : Cond.initialized yX6_splitPiece.cls ∈ uU := uU_in (by decide +kernel) (by decide +kernel)
theorem q_374 : Cond.code yX6_splitPiece cX6_splitPiece 6 none ∈ uU := uU_in (by decide +kernel) (by decide +kernel)
def l_X6_split_53 (n : Nat) (c10 : Int) (v5 : Int) (v7 : Int) : MI × Int → Option ((MI) ⊕ (MI × Int)) := fun (M8, v9) =>
  Option.bind (gI v9 c10) fun _ =>
  if c10 ≤ v9 then
    some (.inl M8)
  else
    Option.bind (odA 20 v9) fun v11 =>
    Option.bind (odA 22 v7) fun v12 =>
    Option.bind (f_X6_splitPiece n v11 v12 v5 M8) fun v13 =>
    some (.inr (v13, v9 + 1))
def l_X6_split_36 (n : Nat) (v5 : Int) : MI × Int → Option ((MI) ⊕ (MI × Int)) := fun (M6, v7) =>
  Option.bind (gI v7 (M6.2 4 2)) fun _ =>
  if (M6.2 4 2) ≤ v7 then
    some (.inl M6)
  else
    Option.bind (lpF (l_X6_split_53 n (M6.2 4 1) v5 v7) n (M6, (0))) fun M15 =>
    some (.inr (M15, v7 + 1))
def l_X6_split_17 (n : Nat) : MI × Int → Option ((MI) ⊕ (MI × Int)) := fun (M4, v5) =>
  Option.bind (gI v5 (1000000)) fun _ =>
  if (1000000) ≤ v5 then
    some (.inl M4)
  else
    Option.bind (gI (M4.2 4 1) (M4.2 4 2)) fun _ =>
    if (M4.2 4 2) ≤ (M4.2 4 1) then
      some (.inl M4)
    else
      Option.bind (lpF (l_X6_split_36 n v5) n (M4, (1))) fun M17 =>
      some (.inr (M17, v5 + 1))
def f_X6_split (n : Nat) (a0 : Nat) (M : MI) : Option MI :=
  Option.bind (odA 20 (0)) fun v1 =>
  Option.bind (f_X5_copy a0 v1 M) fun v2 =>
  Option.bind (opI v2 4 1 (1)) fun v3 =>
  Option.bind (lpF (l_X6_split_17 n) n (v3, (0))) fun M19 =>
  some M19
set_option maxRecDepth 100000 in
set_option maxHeartbeats 8000000 in
theorem b_X6_split {p : Program} {l : Launch} {e : Env} {s : State} {m : MethodId} {args : Array Value} {below : List Frame} {meth : Method} {c : Code} {Q : State → Prop} {G : gG} {A : Nat → Prop} {adr : Nat → Nat} (cx : cX p s m args meth c cX6_split none 6 yX6_split.cls) (hi : adi adr) {n : Nat} {a0 : Nat} {M M' : MI} 
    (h : f_X6_split n a0 M = some M')
    (kr : ∀ (pc : Nat) (ls : Array Slot) (H : Heap) (locs : List Loc), decode cX6_split pc = .ok (.return_, 1) → wH G A s.heap s (LL adr) (wf G adr (tm M')) H locs → W p l e { frames := 5, cells := 0, slots := 0, locals := 129 } s m args below meth c H locs 0 0 Q (F0 m pc ls []))
    {ls : Array Slot} {H : Heap} {locs : List Loc} (hl : lv_has ls 6 [(0, .ref (adr 4)), (1, .ref (adr a0))]) (hw : wH G A s.heap s (LL adr) (wf G adr (tm M)) H locs) : W p l e { frames := 5, cells := 0, slots := 0, locals := 129 } s m args below meth c H locs 0 0 Q (F0 m 0 ls []) := by
  obtain ⟨hx, hb, -, -, hown, hts, -⟩ := id cx
  have hown : s.vm.findClass RX6 = some m.cls := hown
  unfold f_X6_split at h
  refine lv_aload_n hx hb dX6_split_0 rfl (lv_at hl 1 rfl) ?_
  refine lv_aload_n hx hb dX6_split_1 rfl (lv_at hl 0 rfl) ?_
  refine m_get (k := 4) (C := RX6) (T := TX6) (N := 9) (ref := "LiftFactors$Splitter") (v := .ref (adr 20)) hx hb hi hts inX6_u hown hw (by decide) rfl 0 (by decide) q_368 rfl rfl dX6_split_2 ?_
  refine lv_iconst (v := Int32.ofInt (0)) hx hb dX6_split_5 rfl ?_
  replace h := bnd h
  obtain ⟨v1, e1, h⟩ := h
  refine o_aald hx hb hi hw e1 dX6_split_6 ?_
  replace h := bnd h
  obtain ⟨v2, e2, h⟩ := h
  refine m_callSv (As := [.ref (adr a0), .ref (adr v1)]) (rest := []) cx.fix hw (cc_X5_copy (l := l) (G := G) (sz := H.size) hi e2) (w_cS 2 hts q_328 q_260 q_261 q_262 rfl rfl (by decide) (by decide)) hl.1 rfl (lv_room (Nat.le_of_ble_eq_true rfl)) dX6_split_7 (fun H locs hw => ?_)
  refine lv_aload_n hx hb dX6_split_10 rfl (lv_at hl 0 rfl) ?_
  refine lv_iconst (v := Int32.ofInt (1)) hx hb dX6_split_11 rfl ?_
  replace h := bnd h
  obtain ⟨v3, e3, h⟩ := h
  refine o_putI (k := 4) (C := RX6) (T := TX6) (N := 9) (ref := "LiftFactors$Splitter") hx hb hi hts inX6_u tyX6 tyX6_ok nmX6 hown hw (by decide) rfl 1 (by decide) q_366 rfl rfl e3 (by decide +kernel) rfl dX6_split_12 (fun H locs hw => ?_)
  refine lv_iconst (v := Int32.ofInt (0)) hx hb dX6_split_15 rfl ?_
  refine lv_istore_n (lv' := [(2, .int (Int32.ofInt (0))), (0, .ref (adr 4)), (1, .ref (adr a0))]) hx hb dX6_split_16 rfl hl (by decide) rfl (fun ls hl => ?_)
  replace h := bnd h
  obtain ⟨M19, j18, h⟩ := h
  refine lp_W (Wst := fun (st : MI × Int) => ∀ (ls : Array Slot) (H : Heap) (locs : List Loc), lv_has ls 6 [(0, .ref (adr 4)), (2, .int (Int32.ofInt st.2))] → wH G A s.heap s (LL adr) (wf G adr (tm st.1)) H locs → W p l e { frames := 5, cells := 0, slots := 0, locals := 129 } s m args below meth c H locs 0 0 Q (F0 m 17 ls [])) (fin := fun (r : MI) => ∀ (ls : Array Slot) (H : Heap) (locs : List Loc), lv_has ls 6 [] → wH G A s.heap s (LL adr) (wf G adr (tm r)) H locs → W p l e { frames := 5, cells := 0, slots := 0, locals := 129 } s m args below meth c H locs 0 0 Q (F0 m 96 ls [])) ?_ n _ _ j18 ?_ _ _ _ (lv_sub hl [1, 0] rfl) hw
  · clear h j18 hw hl
    intro ⟨M4, v5⟩ x h k1 k2 ls H locs hl hw
    (try dsimp only at k1 k2 hl hw ⊢)
    unfold l_X6_split_17 at h
    (try dsimp only at h)
    refine lv_iload_n hx hb dX6_split_17 rfl (lv_at hl 1 rfl) ?_
    refine lv_ldc (v := Int32.ofInt (1000000)) hx hb hown (hts _ q_369) dX6_split_18 ?_
    replace h := bnd h
    obtain ⟨_, hg, h⟩ := h
    refine o_icmp_ge (tgt := 96) hx hb hg dX6_split_20 (by decide) (fun hc => ?_) (fun hc => ?_)
    · replace h := ite_t hc h
      cases h
      exact k1 _ rfl _ _ _ (lv_sub hl [] rfl) hw
    · replace h := ite_f hc h
      refine lv_aload_n hx hb dX6_split_23 rfl (lv_at hl 0 rfl) ?_
      refine m_get (k := 4) (C := RX6) (T := TX6) (N := 9) (ref := "LiftFactors$Splitter") (v := .int (Int32.ofInt (M4.2 4 1))) hx hb hi hts inX6_u hown hw (by decide) rfl 1 (by decide) q_366 rfl rfl dX6_split_24 ?_
      refine lv_aload_n hx hb dX6_split_27 rfl (lv_at hl 0 rfl) ?_
      refine m_get (k := 4) (C := RX6) (T := TX6) (N := 9) (ref := "LiftFactors$Splitter") (v := .int (Int32.ofInt (M4.2 4 2))) hx hb hi hts inX6_u hown hw (by decide) rfl 2 (by decide) q_334 rfl rfl dX6_split_28 ?_
      replace h := bnd h
      obtain ⟨_, hg, h⟩ := h
      refine o_icmp_ge (tgt := 96) hx hb hg dX6_split_31 (by decide) (fun hc => ?_) (fun hc => ?_)
      · replace h := ite_t hc h
        cases h
        exact k1 _ rfl _ _ _ (lv_sub hl [] rfl) hw
      · replace h := ite_f hc h
        refine lv_iconst (v := Int32.ofInt (1)) hx hb dX6_split_34 rfl ?_
        refine lv_istore_n (lv' := [(3, .int (Int32.ofInt (1))), (0, .ref (adr 4)), (2, .int (Int32.ofInt v5))]) hx hb dX6_split_35 rfl hl (by decide) rfl (fun ls hl => ?_)
        replace h := bnd h
        obtain ⟨M17, j16, h⟩ := h
        refine lp_W (Wst := fun (st : MI × Int) => ∀ (ls : Array Slot) (H : Heap) (locs : List Loc), lv_has ls 6 [(0, .ref (adr 4)), (2, .int (Int32.ofInt v5)), (3, .int (Int32.ofInt st.2))] → wH G A s.heap s (LL adr) (wf G adr (tm st.1)) H locs → W p l e { frames := 5, cells := 0, slots := 0, locals := 129 } s m args below meth c H locs 0 0 Q (F0 m 36 ls [])) (fin := fun (r : MI) => ∀ (ls : Array Slot) (H : Heap) (locs : List Loc), lv_has ls 6 [(0, .ref (adr 4)), (2, .int (Int32.ofInt v5))] → wH G A s.heap s (LL adr) (wf G adr (tm r)) H locs → W p l e { frames := 5, cells := 0, slots := 0, locals := 129 } s m args below meth c H locs 0 0 Q (F0 m 90 ls [])) ?_ n _ _ j16 ?_ _ _ _ (lv_sub hl [1, 2, 0] rfl) hw
        · clear h j16 hw hl
          intro ⟨M6, v7⟩ x h k1 k2 ls H locs hl hw
          (try dsimp only at k1 k2 hl hw ⊢)
          unfold l_X6_split_36 at h
          (try dsimp only at h)
          refine lv_iload_n hx hb dX6_split_36 rfl (lv_at hl 2 rfl) ?_
          refine lv_aload_n hx hb dX6_split_37 rfl (lv_at hl 0 rfl) ?_
          refine m_get (k := 4) (C := RX6) (T := TX6) (N := 9) (ref := "LiftFactors$Splitter") (v := .int (Int32.ofInt (M6.2 4 2))) hx hb hi hts inX6_u hown hw (by decide) rfl 2 (by decide) q_334 rfl rfl dX6_split_38 ?_
          replace h := bnd h
          obtain ⟨_, hg, h⟩ := h
          refine o_icmp_ge (tgt := 90) hx hb hg dX6_split_41 (by decide) (fun hc => ?_) (fun hc => ?_)
          · replace h := ite_t hc h
            cases h
            exact k1 _ rfl _ _ _ (lv_sub hl [0, 1] rfl) hw
          · replace h := ite_f hc h
            refine lv_aload_n hx hb dX6_split_44 rfl (lv_at hl 0 rfl) ?_
            refine m_get (k := 4) (C := RX6) (T := TX6) (N := 9) (ref := "LiftFactors$Splitter") (v := .int (Int32.ofInt (M6.2 4 1))) hx hb hi hts inX6_u hown hw (by decide) rfl 1 (by decide) q_366 rfl rfl dX6_split_45 ?_
            refine lv_istore (lv' := [(4, .int (Int32.ofInt (M6.2 4 1))), (0, .ref (adr 4)), (2, .int (Int32.ofInt v5)), (3, .int (Int32.ofInt v7))]) hx hb dX6_split_48 hl (by decide) rfl (fun ls hl => ?_)
            refine lv_iconst (v := Int32.ofInt (0)) hx hb dX6_split_50 rfl ?_
            refine lv_istore (lv' := [(5, .int (Int32.ofInt (0))), (4, .int (Int32.ofInt (M6.2 4 1))), (0, .ref (adr 4)), (2, .int (Int32.ofInt v5)), (3, .int (Int32.ofInt v7))]) hx hb dX6_split_51 hl (by decide) rfl (fun ls hl => ?_)
            replace h := bnd h
            obtain ⟨M15, j14, h⟩ := h
            refine lp_W (Wst := fun (st : MI × Int) => ∀ (ls : Array Slot) (H : Heap) (locs : List Loc), lv_has ls 6 [(0, .ref (adr 4)), (2, .int (Int32.ofInt v5)), (3, .int (Int32.ofInt v7)), (4, .int (Int32.ofInt (M6.2 4 1))), (5, .int (Int32.ofInt st.2))] → wH G A s.heap s (LL adr) (wf G adr (tm st.1)) H locs → W p l e { frames := 5, cells := 0, slots := 0, locals := 129 } s m args below meth c H locs 0 0 Q (F0 m 53 ls [])) (fin := fun (r : MI) => ∀ (ls : Array Slot) (H : Heap) (locs : List Loc), lv_has ls 6 [(0, .ref (adr 4)), (2, .int (Int32.ofInt v5)), (3, .int (Int32.ofInt v7))] → wH G A s.heap s (LL adr) (wf G adr (tm r)) H locs → W p l e { frames := 5, cells := 0, slots := 0, locals := 129 } s m args below meth c H locs 0 0 Q (F0 m 84 ls [])) ?_ n _ _ j14 ?_ _ _ _ (lv_sub hl [2, 3, 4, 1, 0] rfl) hw
            · clear h j14 hw hl
              intro ⟨M8, v9⟩ x h k1 k2 ls H locs hl hw
              (try dsimp only at k1 k2 hl hw ⊢)
              unfold l_X6_split_53 at h
              (try dsimp only at h)
              refine lv_iload hx hb dX6_split_53 (lv_at hl 4 rfl) ?_
              refine lv_iload hx hb dX6_split_55 (lv_at hl 3 rfl) ?_
              replace h := bnd h
              obtain ⟨_, hg, h⟩ := h
              refine o_icmp_ge (tgt := 84) hx hb hg dX6_split_57 (by decide) (fun hc => ?_) (fun hc => ?_)
              · replace h := ite_t hc h
                cases h
                exact k1 _ rfl _ _ _ (lv_sub hl [0, 1, 2] rfl) hw
              · replace h := ite_f hc h
                refine lv_aload_n hx hb dX6_split_60 rfl (lv_at hl 0 rfl) ?_
                refine lv_aload_n hx hb dX6_split_61 rfl (lv_at hl 0 rfl) ?_
                refine m_get (k := 4) (C := RX6) (T := TX6) (N := 9) (ref := "LiftFactors$Splitter") (v := .ref (adr 20)) hx hb hi hts inX6_u hown hw (by decide) rfl 0 (by decide) q_368 rfl rfl dX6_split_62 ?_
                refine lv_iload hx hb dX6_split_65 (lv_at hl 4 rfl) ?_
                replace h := bnd h
                obtain ⟨v11, e11, h⟩ := h
                refine o_aald hx hb hi hw e11 dX6_split_67 ?_
                refine lv_aload_n hx hb dX6_split_68 rfl (lv_at hl 0 rfl) ?_
                refine m_get (k := 4) (C := RX6) (T := TX6) (N := 9) (ref := "LiftFactors$Splitter") (v := .ref (adr 22)) hx hb hi hts inX6_u hown hw (by decide) rfl 5 (by decide) q_333 rfl rfl dX6_split_69 ?_
                refine lv_iload_n hx hb dX6_split_72 rfl (lv_at hl 2 rfl) ?_
                replace h := bnd h
                obtain ⟨v12, e12, h⟩ := h
                refine o_aald hx hb hi hw e12 dX6_split_73 ?_
                refine lv_iload_n hx hb dX6_split_74 rfl (lv_at hl 1 rfl) ?_
                replace h := bnd h
                obtain ⟨v13, e13, h⟩ := h
                refine m_callVv (k := 4) (As := [.ref (adr v11), .ref (adr v12), .int (Int32.ofInt v5)]) (rest := []) cx.fix hi hw (cc_X6_splitPiece (l := l) (G := G) (sz := H.size) hi e13) (by decide) rfl rfl (w_cV 3 hts q_370 q_371 q_372 q_373 q_374 rfl rfl (by decide) (by decide)) hl.1 rfl (lv_room (Nat.le_of_ble_eq_true rfl)) dX6_split_75 (fun H locs hw => ?_)
                refine lv_iinc (v := Int32.ofInt (v9 + 1)) (lv' := [(5, .int (Int32.ofInt (v9 + 1))), (0, .ref (adr 4)), (2, .int (Int32.ofInt v5)), (3, .int (Int32.ofInt v7)), (4, .int (Int32.ofInt (M6.2 4 1)))]) hx hb dX6_split_78 hl (k := 4) rfl (inc_o _ _) (by decide) rfl (fun ls hl => ?_)
                refine lv_goto (tgt := 53) hx hb dX6_split_81 (by decide) ?_
                cases h
                exact k2 _ rfl _ _ _ (lv_sub hl [1, 2, 3, 4, 0] rfl) hw
            · clear hw hl
              intro ls H locs hl hw
              (try dsimp only at hl hw ⊢)
              refine lv_iinc (v := Int32.ofInt (v7 + 1)) (lv' := [(3, .int (Int32.ofInt (v7 + 1))), (0, .ref (adr 4)), (2, .int (Int32.ofInt v5))]) hx hb dX6_split_84 hl (k := 2) rfl (inc_o _ _) (by decide) rfl (fun ls hl => ?_)
              refine lv_goto (tgt := 36) hx hb dX6_split_87 (by decide) ?_
              cases h
              exact k2 _ rfl _ _ _ (lv_sub hl [1, 2, 0] rfl) hw
        · clear hw hl
          intro ls H locs hl hw
          (try dsimp only at hl hw ⊢)
          refine lv_iinc (v := Int32.ofInt (v5 + 1)) (lv' := [(2, .int (Int32.ofInt (v5 + 1))), (0, .ref (adr 4))]) hx hb dX6_split_90 hl (k := 1) rfl (inc_o _ _) (by decide) rfl (fun ls hl => ?_)
          refine lv_goto (tgt := 17) hx hb dX6_split_93 (by decide) ?_
          cases h
          exact k2 _ rfl _ _ _ (lv_sub hl [1, 0] rfl) hw
  · clear hw hl
    intro ls H locs hl hw
    (try dsimp only at hl hw ⊢)
    cases h
    exact kr _ _ _ _ dX6_split_96 hw
theorem cc_X6_split {l : Launch} {G : gG} {adr : Nat → Nat} {sz : Nat} (hi : adi adr) {n : Nat} {a0 : Nat} {M M' : MI} (h : f_X6_split n a0 M = some M') : mV l yX6_split cX6_split 6 none { frames := 5, cells := 0, slots := 0, locals := 129 } G adr [.ref (adr 4), .ref (adr a0)] (tm M) sz (tm M') := by
  refine wEnter (by decide) (Nat.le_of_ble_eq_true rfl) ?_
  intro p e s m below meth c ls cx hinit hl hsz hw
  exact b_X6_split cx hi h (fun pc ls H locs hd hw => w_vret (post := fun (u : Mem) => u = tm M') (lf := fun u => (LL adr, wf G adr u)) cx.1 cx.2.1 cx.2.2.1 cx.2.2.2.2.2.2 (tm M') hw rfl hd) hl hw
