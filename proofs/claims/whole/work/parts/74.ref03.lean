theorem q_62 : Cond.constantLong RX8 104 (1000000000000) ∈ uU := uU_in (by decide +kernel) (by decide +kernel)
theorem q_63 : Cond.fieldLink RX8 7 "LiftFactorsModel" "primesBelow" "[I" ∈ uU := uU_in (by decide +kernel) (by decide +kernel)
def f_X8_takePrime (a0 : Int) (M : MI) : Option MI :=
  Option.bind (odI M 37 a0) fun v1 =>
  Option.bind (gI v1 0) fun v2 =>
  Option.bind (opJ M 36 9 ((1000000000000) - v1)) fun v3 =>
  some v3
set_option maxRecDepth 100000 in
set_option maxHeartbeats 8000000 in
theorem b_X8_takePrime {p : Program} {l : Launch} {e : Env} {s : State} {m : MethodId} {args : Array Value} {below : List Frame} {meth : Method} {c : Code} {Q : State → Prop} {G : gG} {A : Nat → Prop} {adr : Nat → Nat} (cx : cX p s m args meth c cX8_takePrime none 2 yX8_takePrime.cls) (hi : adi adr) {a0 : Int} {M M' : MI} 
    (h : f_X8_takePrime a0 M = some M')
    (kr : ∀ (pc : Nat) (ls : Array Slot) (H : Heap) (locs : List Loc), decode cX8_takePrime pc = .ok (.return_, 1) → wH G A s.heap s (LL adr) (wf G adr (tm M')) H locs → W p l e { frames := 0, cells := 0, slots := 0, locals := 0 } s m args below meth c H locs 0 0 Q (F0 m pc ls []))
    {ls : Array Slot} {H : Heap} {locs : List Loc} (hl : lv_has ls 2 [(0, .ref (adr 36)), (1, .int (Int32.ofInt a0))]) (hw : wH G A s.heap s (LL adr) (wf G adr (tm M)) H locs) : W p l e { frames := 0, cells := 0, slots := 0, locals := 0 } s m args below meth c H locs 0 0 Q (F0 m 0 ls []) := by
  obtain ⟨hx, hb, -, -, hown, hts, -⟩ := id cx
  have hown : s.vm.findClass RX8 = some m.cls := hown
  unfold f_X8_takePrime at h
  refine lv_aload_n hx hb dX8_takePrime_0 rfl (lv_at hl 0 rfl) ?_
  refine lv_ldc2 (v := Int64.ofInt (1000000000000)) hx hb hown (hts _ q_62) dX8_takePrime_1 ?_
  refine lv_aload_n hx hb dX8_takePrime_4 rfl (lv_at hl 0 rfl) ?_
  refine m_get (k := 36) (C := RX8) (T := TX8) (N := 18) (ref := "LiftFactorsModel") (v := .ref (adr 37)) hx hb hi hts inX8_u hown hw (by decide) rfl 0 (by decide) q_63 rfl rfl dX8_takePrime_5 ?_
  refine lv_iload_n hx hb dX8_takePrime_8 rfl (lv_at hl 1 rfl) ?_
  replace h := bnd h
  obtain ⟨v1, e1, h⟩ := h
  refine o_iald hx hb hi hw e1 dX8_takePrime_9 ?_
  replace h := bnd h
  obtain ⟨v2, e2, h⟩ := h
  refine o_i2l hx hb e2 dX8_takePrime_10 ?_
  refine o_lsub hx hb dX8_takePrime_11 ?_
  replace h := bnd h
  obtain ⟨v3, e3, h⟩ := h
  refine o_putJ (k := 36) (C := RX8) (T := TX8) (N := 18) (ref := "LiftFactorsModel") hx hb hi hts inX8_u tyX8 tyX8_ok nmX8 hown hw (by decide) rfl 9 (by decide) q_29 rfl rfl e3 (by decide +kernel) rfl dX8_takePrime_12 (fun H locs hw => ?_)
  cases h
  exact kr _ _ _ _ dX8_takePrime_15 hw
theorem cc_X8_takePrime {l : Launch} {G : gG} {adr : Nat → Nat} {sz : Nat} (hi : adi adr) {a0 : Int} {M M' : MI} (h : f_X8_takePrime a0 M = some M') : mV l yX8_takePrime cX8_takePrime 2 none { frames := 0, cells := 0, slots := 0, locals := 0 } G adr [.ref (adr 36), .int (Int32.ofInt a0)] (tm M) sz (tm M') := by
  refine wEnter (by decide) (Nat.le_of_ble_eq_true rfl) ?_
  intro p e s m below meth c ls cx hinit hl hsz hw
  exact b_X8_takePrime cx hi h (fun pc ls H locs hd hw => w_vret (post := fun (u : Mem) => u = tm M') (lf := fun u => (LL adr, wf G adr u)) cx.1 cx.2.1 cx.2.2.1 cx.2.2.2.2.2.2 (tm M') hw rfl hd) hl hw
def l_X8_center_2 (a0 : Int) : MI × Int → Option ((MI) ⊕ (MI × Int)) := fun (M1, v2) =>
  Option.bind (odI M1 42 a0) fun v3 =>
  Option.bind (gI v2 v3) fun _ =>
  if v3 < v2 then
    some (.inl M1)
  else
    Option.bind (odJ M1 41 (((24) * a0) + v2)) fun v4 =>
    Option.bind (oqJ (M1.1 36 9) (2)) fun v5 =>
    Option.bind (
      Option.bind (gJ v4 v5) fun _ =>
      if v4 ≤ v5 then
        some M1
      else
        Option.bind (odJ M1 41 (((24) * a0) + v2)) fun v6 =>
        Option.bind (osJ M1 41 (((24) * a0) + v2) (v6 - (M1.1 36 9))) fun v7 =>
        some v7) fun M8 =>
    some (.inr (M8, v2 + 1))
def f_X8_center (n : Nat) (a0 : Int) (M : MI) : Option MI :=
  Option.bind (lpF (l_X8_center_2 a0) n (M, (0))) fun M11 =>
  some M11
set_option maxRecDepth 100000 in
set_option maxHeartbeats 8000000 in
theorem b_X8_center {p : Program} {l : Launch} {e : Env} {s : State} {m : MethodId} {args : Array Value} {below : List Frame} {meth : Method} {c : Code} {Q : State → Prop} {G : gG} {A : Nat → Prop} {adr : Nat → Nat} (cx : cX p s m args meth c cX8_center none 3 yX8_center.cls) (hi : adi adr) {n : Nat} {a0 : Int} {M M' : MI} 
    (h : f_X8_center n a0 M = some M')
    (kr : ∀ (pc : Nat) (ls : Array Slot) (H : Heap) (locs : List Loc), decode cX8_center pc = .ok (.return_, 1) → wH G A s.heap s (LL adr) (wf G adr (tm M')) H locs → W p l e { frames := 0, cells := 0, slots := 0, locals := 0 } s m args below meth c H locs 0 0 Q (F0 m pc ls []))
    {ls : Array Slot} {H : Heap} {locs : List Loc} (hl : lv_has ls 3 [(0, .ref (adr 36)), (1, .int (Int32.ofInt a0))]) (hw : wH G A s.heap s (LL adr) (wf G adr (tm M)) H locs) : W p l e { frames := 0, cells := 0, slots := 0, locals := 0 } s m args below meth c H locs 0 0 Q (F0 m 0 ls []) := by
  obtain ⟨hx, hb, -, -, hown, hts, -⟩ := id cx
  have hown : s.vm.findClass RX8 = some m.cls := hown
  unfold f_X8_center at h
  refine lv_iconst (v := Int32.ofInt (0)) hx hb dX8_center_0 rfl ?_
  refine lv_istore_n (lv' := [(2, .int (Int32.ofInt (0))), (0, .ref (adr 36)), (1, .int (Int32.ofInt a0))]) hx hb dX8_center_1 rfl hl (by decide) rfl (fun ls hl => ?_)
  replace h := bnd h
  obtain ⟨M11, j10, h⟩ := h
  refine lp_W (Wst := fun (st : MI × Int) => ∀ (ls : Array Slot) (H : Heap) (locs : List Loc), lv_has ls 3 [(0, .ref (adr 36)), (1, .int (Int32.ofInt a0)), (2, .int (Int32.ofInt st.2))] → wH G A s.heap s (LL adr) (wf G adr (tm st.1)) H locs → W p l e { frames := 0, cells := 0, slots := 0, locals := 0 } s m args below meth c H locs 0 0 Q (F0 m 2 ls [])) (fin := fun (r : MI) => ∀ (ls : Array Slot) (H : Heap) (locs : List Loc), lv_has ls 3 [] → wH G A s.heap s (LL adr) (wf G adr (tm r)) H locs → W p l e { frames := 0, cells := 0, slots := 0, locals := 0 } s m args below meth c H locs 0 0 Q (F0 m 59 ls [])) ?_ n _ _ j10 ?_ _ _ _ (lv_sub hl [1, 2, 0] rfl) hw
  · clear h j10 hw hl
    intro ⟨M1, v2⟩ x h k1 k2 ls H locs hl hw
    (try dsimp only at k1 k2 hl hw ⊢)
    unfold l_X8_center_2 at h
    (try dsimp only at h)
    refine lv_iload_n hx hb dX8_center_2 rfl (lv_at hl 2 rfl) ?_
    refine lv_aload_n hx hb dX8_center_3 rfl (lv_at hl 0 rfl) ?_
    refine m_get (k := 36) (C := RX8) (T := TX8) (N := 18) (ref := "LiftFactorsModel") (v := .ref (adr 42)) hx hb hi hts inX8_u hown hw (by decide) rfl 8 (by decide) q_1 rfl rfl dX8_center_4 ?_
    refine lv_iload_n hx hb dX8_center_7 rfl (lv_at hl 1 rfl) ?_
    replace h := bnd h
    obtain ⟨v3, e3, h⟩ := h
    refine o_iald hx hb hi hw e3 dX8_center_8 ?_
    replace h := bnd h
    obtain ⟨_, hg, h⟩ := h
    refine o_icmp_gt (tgt := 59) hx hb hg dX8_center_9 (by decide) (fun hc => ?_) (fun hc => ?_)
    · replace h := ite_t hc h
      cases h
      exact k1 _ rfl _ _ _ (lv_sub hl [] rfl) hw
    · replace h := ite_f hc h
      refine lv_aload_n hx hb dX8_center_12 rfl (lv_at hl 0 rfl) ?_
      refine m_get (k := 36) (C := RX8) (T := TX8) (N := 18) (ref := "LiftFactorsModel") (v := .ref (adr 41)) hx hb hi hts inX8_u hown hw (by decide) rfl 7 (by decide) q_0 rfl rfl dX8_center_13 ?_
      refine lv_bipush (v := Int32.ofInt (24)) hx hb dX8_center_16 rfl ?_
      refine lv_iload_n hx hb dX8_center_18 rfl (lv_at hl 1 rfl) ?_
      refine o_imul hx hb dX8_center_19 ?_
      refine lv_iload_n hx hb dX8_center_20 rfl (lv_at hl 2 rfl) ?_
      refine o_iadd hx hb dX8_center_21 ?_
      replace h := bnd h
      obtain ⟨v4, e4, h⟩ := h
      refine o_lald hx hb hi hw e4 dX8_center_22 ?_
      refine lv_aload_n hx hb dX8_center_23 rfl (lv_at hl 0 rfl) ?_
      refine m_get (k := 36) (C := RX8) (T := TX8) (N := 18) (ref := "LiftFactorsModel") (v := .long (Int64.ofInt (M1.1 36 9))) hx hb hi hts inX8_u hown hw (by decide) rfl 9 (by decide) q_29 rfl rfl dX8_center_24 ?_
      refine lv_ldc2 (v := Int64.ofInt (2)) hx hb hown (hts _ q_36) dX8_center_27 ?_
      replace h := bnd h
      obtain ⟨v5, e5, h⟩ := h
      refine o_ldiv hx hb e5 dX8_center_30 ?_
      replace h := bnd h
      obtain ⟨M8, j9, h⟩ := h
      have kj : ∀ (ls : Array Slot) (H : Heap) (locs : List Loc), lv_has ls 3 [(0, .ref (adr 36)), (1, .int (Int32.ofInt a0)), (2, .int (Int32.ofInt v2))] → wH G A s.heap s (LL adr) (wf G adr (tm M8)) H locs → W p l e { frames := 0, cells := 0, slots := 0, locals := 0 } s m args below meth c H locs 0 0 Q (F0 m 53 ls []) := by
        intro ls H locs hl hw
        refine lv_iinc (v := Int32.ofInt (v2 + 1)) (lv' := [(2, .int (Int32.ofInt (v2 + 1))), (0, .ref (adr 36)), (1, .int (Int32.ofInt a0))]) hx hb dX8_center_53 hl (k := 2) rfl (inc_o _ _) (by decide) rfl (fun ls hl => ?_)
        refine lv_goto (tgt := 2) hx hb dX8_center_56 (by decide) ?_
        cases h
        exact k2 _ rfl _ _ _ (lv_sub hl [1, 2, 0] rfl) hw
      clear h
      replace h := j9
      clear j9
      replace h := bnd h
      obtain ⟨_, hg, h⟩ := h
      refine o_lcmp_le (tgt := 53) hx hb hg dX8_center_31 dX8_center_32 (by decide) (fun hc => ?_) (fun hc => ?_)
      · replace h := ite_t hc h
        cases h
        exact kj _ _ _ (lv_sub hl [0, 1, 2] rfl) hw
      · replace h := ite_f hc h
        refine lv_aload_n hx hb dX8_center_35 rfl (lv_at hl 0 rfl) ?_
        refine m_get (k := 36) (C := RX8) (T := TX8) (N := 18) (ref := "LiftFactorsModel") (v := .ref (adr 41)) hx hb hi hts inX8_u hown hw (by decide) rfl 7 (by decide) q_0 rfl rfl dX8_center_36 ?_
        refine lv_bipush (v := Int32.ofInt (24)) hx hb dX8_center_39 rfl ?_
        refine lv_iload_n hx hb dX8_center_41 rfl (lv_at hl 1 rfl) ?_
        refine o_imul hx hb dX8_center_42 ?_
        refine lv_iload_n hx hb dX8_center_43 rfl (lv_at hl 2 rfl) ?_
        refine o_iadd hx hb dX8_center_44 ?_
        refine lv_dup2_11 hx hb dX8_center_45 rfl rfl ?_
        replace h := bnd h
        obtain ⟨v6, e6, h⟩ := h
        refine o_lald hx hb hi hw e6 dX8_center_46 ?_
        refine lv_aload_n hx hb dX8_center_47 rfl (lv_at hl 0 rfl) ?_
        refine m_get (k := 36) (C := RX8) (T := TX8) (N := 18) (ref := "LiftFactorsModel") (v := .long (Int64.ofInt (M1.1 36 9))) hx hb hi hts inX8_u hown hw (by decide) rfl 9 (by decide) q_29 rfl rfl dX8_center_48 ?_
        refine o_lsub hx hb dX8_center_51 ?_
        replace h := bnd h
        obtain ⟨v7, e7, h⟩ := h
        refine o_last hx hb hi hw e7 dX8_center_52 (fun H locs hw => ?_)
        cases h
        exact kj _ _ _ (lv_sub hl [0, 1, 2] rfl) hw
  · clear hw hl
    intro ls H locs hl hw
    (try dsimp only at hl hw ⊢)
    cases h
    exact kr _ _ _ _ dX8_center_59 hw
theorem cc_X8_center {l : Launch} {G : gG} {adr : Nat → Nat} {sz : Nat} (hi : adi adr) {n : Nat} {a0 : Int} {M M' : MI} (h : f_X8_center n a0 M = some M') : mV l yX8_center cX8_center 3 none { frames := 0, cells := 0, slots := 0, locals := 0 } G adr [.ref (adr 36), .int (Int32.ofInt a0)] (tm M) sz (tm M') := by
  refine wEnter (by decide) (Nat.le_of_ble_eq_true rfl) ?_
  intro p e s m below meth c ls cx hinit hl hsz hw
  exact b_X8_center cx hi h (fun pc ls H locs hd hw => w_vret (post := fun (u : Mem) => u = tm M') (lf := fun u => (LL adr, wf G adr u)) cx.1 cx.2.1 cx.2.2.1 cx.2.2.2.2.2.2 (tm M') hw rfl hd) hl hw
theorem q_64 : Cond.methodLink RX8 106 yX8_primitive ∈ uU := uU_in (by decide +kernel) (by decide +kernel)
theorem q_65 : Cond.instanceMethod yX8_primitive ∈ uU := uU_in (by decide +kernel) (by decide +kernel)
theorem q_66 : Cond.selects yX8_primitive.cls yX8_primitive yX8_primitive ∈ uU := uU_in (by decide +kernel) (by decide +kernel)
theorem q_67 : Cond.initialized yX8_primitive.cls ∈ uU := uU_in (by decide +kernel) (by decide +kernel)
theorem q_68 : Cond.code yX8_primitive cX8_primitive 5 (some .long) ∈ uU := uU_in (by decide +kernel) (by decide +kernel)
theorem q_69 : Cond.methodLink RX8 110 yX8_takePrime ∈ uU := uU_in (by decide +kernel) (by decide +kernel)
theorem q_70 : Cond.instanceMethod yX8_takePrime ∈ uU := uU_in (by decide +kernel) (by decide +kernel)
theorem q_71 : Cond.selects yX8_takePrime.cls yX8_takePrime yX8_takePrime ∈ uU := uU_in (by decide +kernel) (by decide +kernel)
theorem q_72 : Cond.initialized yX8_takePrime.cls ∈ uU := uU_in (by decide +kernel) (by decide +kernel)
theorem q_73 : Cond.code yX8_takePrime cX8_takePrime 2 none ∈ uU := uU_in (by decide +kernel) (by decide +kernel)
theorem q_74 : Cond.methodLink RX8 113 yX8_reduce ∈ uU := uU_in (by decide +kernel) (by decide +kernel)
theorem q_75 : Cond.instanceMethod yX8_reduce ∈ uU := uU_in (by decide +kernel) (by decide +kernel)
theorem q_76 : Cond.selects yX8_reduce.cls yX8_reduce yX8_reduce ∈ uU := uU_in (by decide +kernel) (by decide +kernel)
theorem q_77 : Cond.initialized yX8_reduce.cls ∈ uU := uU_in (by decide +kernel) (by decide +kernel)
theorem q_78 : Cond.code yX8_reduce cX8_reduce 6 none ∈ uU := uU_in (by decide +kernel) (by decide +kernel)
theorem q_79 : Cond.methodLink RX8 116 yX8_commonRow ∈ uU := uU_in (by decide +kernel) (by decide +kernel)
theorem q_80 : Cond.instanceMethod yX8_commonRow ∈ uU := uU_in (by decide +kernel) (by decide +kernel)
theorem q_81 : Cond.selects yX8_commonRow.cls yX8_commonRow yX8_commonRow ∈ uU := uU_in (by decide +kernel) (by decide +kernel)
theorem q_82 : Cond.initialized yX8_commonRow.cls ∈ uU := uU_in (by decide +kernel) (by decide +kernel)
theorem q_83 : Cond.code yX8_commonRow cX8_commonRow 7 none ∈ uU := uU_in (by decide +kernel) (by decide +kernel)
theorem q_84 : Cond.methodLink RX8 120 yX8_center ∈ uU := uU_in (by decide +kernel) (by decide +kernel)
theorem q_85 : Cond.instanceMethod yX8_center ∈ uU := uU_in (by decide +kernel) (by decide +kernel)
theorem q_86 : Cond.selects yX8_center.cls yX8_center yX8_center ∈ uU := uU_in (by decide +kernel) (by decide +kernel)
theorem q_87 : Cond.initialized yX8_center.cls ∈ uU := uU_in (by decide +kernel) (by decide +kernel)
theorem q_88 : Cond.code yX8_center cX8_center 3 none ∈ uU := uU_in (by decide +kernel) (by decide +kernel)
theorem q_89 : Cond.constantLong RX8 123 (400000000) ∈ uU := uU_in (by decide +kernel) (by decide +kernel)
theorem q_90 : Cond.methodLink RX8 125 yX8_divides ∈ uU := uU_in (by decide +kernel) (by decide +kernel)
theorem q_91 : Cond.instanceMethod yX8_divides ∈ uU := uU_in (by decide +kernel) (by decide +kernel)
theorem q_92 : Cond.selects yX8_divides.cls yX8_divides yX8_divides ∈ uU := uU_in (by decide +kernel) (by decide +kernel)
theorem q_93 : Cond.initialized yX8_divides.cls ∈ uU := uU_in (by decide +kernel) (by decide +kernel)
theorem q_94 : Cond.code yX8_divides cX8_divides 14 (some .boolean) ∈ uU := uU_in (by decide +kernel) (by decide +kernel)
def l_X8_commonWhole_136 (v13 : Int) : MI × Int → Option ((MI) ⊕ (MI × Int)) := fun (M23, v24) =>
  Option.bind (odI M23 42 (7)) fun v25 =>
  Option.bind (gI v24 v25) fun _ =>
  if v25 < v24 then
    some (.inl M23)
  else
    Option.bind (odJ M23 41 ((168) + v24)) fun v26 =>
    Option.bind (f_X8_product v26 v13 M23) fun v27 =>
    Option.bind (osJ M23 41 ((168) + v24) v27) fun v28 =>
    some (.inr (v28, v24 + 1))
def l_X8_commonWhole_84 (n : Nat) (a0 : Int) (a1 : Int) (a2 : Int) (v13 : Int) : MI × Int → Option (((MI) ⊕ (MI)) ⊕ (MI × Int)) := fun (M14, v15) =>
  Option.bind (olA 37) fun v16 =>
  Option.bind (gI v15 v16) fun _ =>
  if v16 ≤ v15 then
    some (.inl (.inr M14))
  else
    Option.bind (f_X8_takePrime v15 M14) fun v17 =>
    Option.bind (f_X8_copy n a0 (5) v17) fun v18 =>
    Option.bind (f_X8_copy n a1 (6) v18) fun v19 =>
    Option.bind (f_X8_reduce n (5) v19) fun v20 =>
    Option.bind (f_X8_reduce n (6) v20) fun v21 =>
    Option.bind (f_X8_commonRow n (5) (6) (7) v21) fun v22 =>
    Option.bind (lpF (l_X8_commonWhole_136 v13) n (v22, (0))) fun M30 =>
    Option.bind (f_X8_center n (7) M30) fun v31 =>
    Option.bind (f_X8_primitive n (7) v31) fun (v32, M33) =>
    Option.bind (f_X8_divides n (7) a0 (400000000) M33) fun (v34, M35) =>
    Option.bind (gI v34 0) fun _ =>
    if v34 = 0 then
      some (.inr (M35, v15 + 1))
    else
      Option.bind (f_X8_divides n (7) a1 (400000000) M35) fun (v36, M37) =>
      Option.bind (gI v36 0) fun _ =>
      if v36 = 0 then
        some (.inr (M37, v15 + 1))
      else
        Option.bind (f_X8_copy n (7) a2 M37) fun v38 =>
        some (.inl (.inl v38))
def f_X8_commonWhole (n : Nat) (a0 : Int) (a1 : Int) (a2 : Int) (M : MI) : Option MI :=
  Option.bind (odI M 42 a0) fun v1 =>
  Option.bind (gI v1 0) fun _ =>
  if v1 < 0 then
    Option.bind (odI M 42 a0) fun v2 =>
    Option.bind (
      Option.bind (gI v2 0) fun _ =>
      if 0 ≤ v2 then
        some a0
      else
        some a1) fun v3 =>
    Option.bind (f_X8_copy n v3 a2 M) fun v4 =>
    Option.bind (f_X8_primitive n a2 v4) fun (v5, M6) =>
    some M6
  else
    Option.bind (odI M 42 a1) fun v8 =>
    Option.bind (gI v8 0) fun _ =>
    if 0 ≤ v8 then
      Option.bind (odI M 42 a0) fun v9 =>
      Option.bind (odJ M 41 (((24) * a0) + v9)) fun v10 =>
      Option.bind (odI M 42 a1) fun v11 =>
      Option.bind (odJ M 41 (((24) * a1) + v11)) fun v12 =>
      Option.bind (f_X8_common n v10 v12) fun v13 =>
      Option.bind (lpF (l_X8_commonWhole_84 n a0 a1 a2 v13) n (M, (0))) fun r => match r with
      | .inl o => some o
      | .inr M40 =>
        some M40
    else
      Option.bind (odI M 42 a0) fun v42 =>
      Option.bind (
        Option.bind (gI v42 0) fun _ =>
        if 0 ≤ v42 then
          some a0
        else
          some a1) fun v43 =>
      Option.bind (f_X8_copy n v43 a2 M) fun v44 =>
      Option.bind (f_X8_primitive n a2 v44) fun (v45, M46) =>
      some M46
set_option maxRecDepth 100000 in
set_option maxHeartbeats 8000000 in
theorem b_X8_commonWhole {p : Program} {l : Launch} {e : Env} {s : State} {m : MethodId} {args : Array Value} {below : List Frame} {meth : Method} {c : Code} {Q : State → Prop} {G : gG} {A : Nat → Prop} {adr : Nat → Nat} (cx : cX p s m args meth c cX8_commonWhole none 8 yX8_commonWhole.cls) (hi : adi adr) {n : Nat} {a0 : Int} {a1 : Int} {a2 : Int} {M M' : MI} 
    (h : f_X8_commonWhole n a0 a1 a2 M = some M')
    (kr : ∀ (pc : Nat) (ls : Array Slot) (H : Heap) (locs : List Loc), decode cX8_commonWhole pc = .ok (.return_, 1) → wH G A s.heap s (LL adr) (wf G adr (tm M')) H locs → W p l e { frames := 4, cells := 0, slots := 0, locals := 106 } s m args below meth c H locs 0 0 Q (F0 m pc ls []))
    {ls : Array Slot} {H : Heap} {locs : List Loc} (hl : lv_has ls 8 [(0, .ref (adr 36)), (1, .int (Int32.ofInt a0)), (2, .int (Int32.ofInt a1)), (3, .int (Int32.ofInt a2))]) (hw : wH G A s.heap s (LL adr) (wf G adr (tm M)) H locs) : W p l e { frames := 4, cells := 0, slots := 0, locals := 106 } s m args below meth c H locs 0 0 Q (F0 m 0 ls []) := by
  obtain ⟨hx, hb, -, -, hown, hts, -⟩ := id cx
  have hown : s.vm.findClass RX8 = some m.cls := hown
  unfold f_X8_commonWhole at h
  refine lv_aload_n hx hb dX8_commonWhole_0 rfl (lv_at hl 0 rfl) ?_
  refine m_get (k := 36) (C := RX8) (T := TX8) (N := 18) (ref := "LiftFactorsModel") (v := .ref (adr 42)) hx hb hi hts inX8_u hown hw (by decide) rfl 8 (by decide) q_1 rfl rfl dX8_commonWhole_1 ?_
  refine lv_iload_n hx hb dX8_commonWhole_4 rfl (lv_at hl 1 rfl) ?_
  replace h := bnd h
  obtain ⟨v1, e1, h⟩ := h
  refine o_iald hx hb hi hw e1 dX8_commonWhole_5 ?_
  replace h := bnd h
  obtain ⟨_, hg, h⟩ := h
  refine o_if_lt (tgt := 18) hx hb hg dX8_commonWhole_6 (by decide) (fun hc => ?_) (fun hc => ?_)
  · replace h := ite_t hc h
    refine lv_aload_n hx hb dX8_commonWhole_18 rfl (lv_at hl 0 rfl) ?_
    refine lv_aload_n hx hb dX8_commonWhole_19 rfl (lv_at hl 0 rfl) ?_
    refine m_get (k := 36) (C := RX8) (T := TX8) (N := 18) (ref := "LiftFactorsModel") (v := .ref (adr 42)) hx hb hi hts inX8_u hown hw (by decide) rfl 8 (by decide) q_1 rfl rfl dX8_commonWhole_20 ?_
    refine lv_iload_n hx hb dX8_commonWhole_23 rfl (lv_at hl 1 rfl) ?_
    replace h := bnd h
    obtain ⟨v2, e2, h⟩ := h
    refine o_iald hx hb hi hw e2 dX8_commonWhole_24 ?_
    replace h := bnd h
    obtain ⟨v3, j7, h⟩ := h
    have kj : ∀ (ls : Array Slot) (H : Heap) (locs : List Loc), lv_has ls 8 [(0, .ref (adr 36)), (3, .int (Int32.ofInt a2))] → wH G A s.heap s (LL adr) (wf G adr (tm M)) H locs → W p l e { frames := 4, cells := 0, slots := 0, locals := 106 } s m args below meth c H locs 0 0 Q (F0 m 33 ls [.int (Int32.ofInt v3), .ref (adr 36)]) := by
      intro ls H locs hl hw
      refine lv_iload_n hx hb dX8_commonWhole_33 rfl (lv_at hl 1 rfl) ?_
      replace h := bnd h
      obtain ⟨v4, e4, h⟩ := h
      refine m_callVv (k := 36) (As := [.int (Int32.ofInt v3), .int (Int32.ofInt a2)]) (rest := []) cx.fix hi hw (cc_X8_copy (l := l) (G := G) (sz := H.size) hi e4) (by decide) rfl rfl (w_cV 2 hts q_24 q_25 q_26 q_27 q_28 rfl rfl (by decide) (by decide)) hl.1 rfl (lv_room (Nat.le_of_ble_eq_true rfl)) dX8_commonWhole_34 (fun H locs hw => ?_)
      refine lv_aload_n hx hb dX8_commonWhole_37 rfl (lv_at hl 0 rfl) ?_
      refine lv_iload_n hx hb dX8_commonWhole_38 rfl (lv_at hl 1 rfl) ?_
      replace h := bnd h
      obtain ⟨⟨v5, M6⟩, e5, h⟩ := h
      refine m_callVl (k := 36) (As := [.int (Int32.ofInt a2)]) (rest := []) cx.fix hi hw (cc_X8_primitive (l := l) (G := G) (sz := H.size) hi e5) (by decide) rfl rfl (w_cV 1 hts q_64 q_65 q_66 q_67 q_68 rfl rfl (by decide) (by decide)) hl.1 rfl (lv_room (Nat.le_of_ble_eq_true rfl)) dX8_commonWhole_39 (fun H locs hw => ?_)
      refine lv_pop2_2 hx hb dX8_commonWhole_42 rfl ?_
      cases h
      exact kr _ _ _ _ dX8_commonWhole_43 hw
    clear h
    replace h := j7
    clear j7
    replace h := bnd h
    obtain ⟨_, hg, h⟩ := h
    refine o_if_ge (tgt := 32) hx hb hg dX8_commonWhole_25 (by decide) (fun hc => ?_) (fun hc => ?_)
    · replace h := ite_t hc h
      refine lv_iload_n hx hb dX8_commonWhole_32 rfl (lv_at hl 1 rfl) ?_
      cases h
      exact kj _ _ _ (lv_sub hl [0, 3] rfl) hw
    · replace h := ite_f hc h
      refine lv_iload_n hx hb dX8_commonWhole_28 rfl (lv_at hl 2 rfl) ?_
      refine lv_goto (tgt := 33) hx hb dX8_commonWhole_29 (by decide) ?_
      cases h
      exact kj _ _ _ (lv_sub hl [0, 3] rfl) hw
  · replace h := ite_f hc h
    refine lv_aload_n hx hb dX8_commonWhole_9 rfl (lv_at hl 0 rfl) ?_
    refine m_get (k := 36) (C := RX8) (T := TX8) (N := 18) (ref := "LiftFactorsModel") (v := .ref (adr 42)) hx hb hi hts inX8_u hown hw (by decide) rfl 8 (by decide) q_1 rfl rfl dX8_commonWhole_10 ?_
    refine lv_iload_n hx hb dX8_commonWhole_13 rfl (lv_at hl 2 rfl) ?_
    replace h := bnd h
    obtain ⟨v8, e8, h⟩ := h
    refine o_iald hx hb hi hw e8 dX8_commonWhole_14 ?_
    replace h := bnd h
    obtain ⟨_, hg, h⟩ := h
    refine o_if_ge (tgt := 44) hx hb hg dX8_commonWhole_15 (by decide) (fun hc => ?_) (fun hc => ?_)
    · replace h := ite_t hc h
      refine lv_aload_n hx hb dX8_commonWhole_44 rfl (lv_at hl 0 rfl) ?_
      refine m_get (k := 36) (C := RX8) (T := TX8) (N := 18) (ref := "LiftFactorsModel") (v := .ref (adr 41)) hx hb hi hts inX8_u hown hw (by decide) rfl 7 (by decide) q_0 rfl rfl dX8_commonWhole_45 ?_
      refine lv_bipush (v := Int32.ofInt (24)) hx hb dX8_commonWhole_48 rfl ?_
      refine lv_iload_n hx hb dX8_commonWhole_50 rfl (lv_at hl 1 rfl) ?_
      refine o_imul hx hb dX8_commonWhole_51 ?_
      refine lv_aload_n hx hb dX8_commonWhole_52 rfl (lv_at hl 0 rfl) ?_
      refine m_get (k := 36) (C := RX8) (T := TX8) (N := 18) (ref := "LiftFactorsModel") (v := .ref (adr 42)) hx hb hi hts inX8_u hown hw (by decide) rfl 8 (by decide) q_1 rfl rfl dX8_commonWhole_53 ?_
      refine lv_iload_n hx hb dX8_commonWhole_56 rfl (lv_at hl 1 rfl) ?_
      replace h := bnd h
      obtain ⟨v9, e9, h⟩ := h
      refine o_iald hx hb hi hw e9 dX8_commonWhole_57 ?_
      refine o_iadd hx hb dX8_commonWhole_58 ?_
      replace h := bnd h
      obtain ⟨v10, e10, h⟩ := h
      refine o_lald hx hb hi hw e10 dX8_commonWhole_59 ?_
      refine lv_aload_n hx hb dX8_commonWhole_60 rfl (lv_at hl 0 rfl) ?_
      refine m_get (k := 36) (C := RX8) (T := TX8) (N := 18) (ref := "LiftFactorsModel") (v := .ref (adr 41)) hx hb hi hts inX8_u hown hw (by decide) rfl 7 (by decide) q_0 rfl rfl dX8_commonWhole_61 ?_
      refine lv_bipush (v := Int32.ofInt (24)) hx hb dX8_commonWhole_64 rfl ?_
      refine lv_iload_n hx hb dX8_commonWhole_66 rfl (lv_at hl 2 rfl) ?_
      refine o_imul hx hb dX8_commonWhole_67 ?_
      refine lv_aload_n hx hb dX8_commonWhole_68 rfl (lv_at hl 0 rfl) ?_
      refine m_get (k := 36) (C := RX8) (T := TX8) (N := 18) (ref := "LiftFactorsModel") (v := .ref (adr 42)) hx hb hi hts inX8_u hown hw (by decide) rfl 8 (by decide) q_1 rfl rfl dX8_commonWhole_69 ?_
      refine lv_iload_n hx hb dX8_commonWhole_72 rfl (lv_at hl 2 rfl) ?_
      replace h := bnd h
      obtain ⟨v11, e11, h⟩ := h
      refine o_iald hx hb hi hw e11 dX8_commonWhole_73 ?_
      refine o_iadd hx hb dX8_commonWhole_74 ?_
      replace h := bnd h
      obtain ⟨v12, e12, h⟩ := h
      refine o_lald hx hb hi hw e12 dX8_commonWhole_75 ?_
      replace h := bnd h
      obtain ⟨v13, e13, h⟩ := h
      refine m_callSl (As := [.long (Int64.ofInt v10), .long (Int64.ofInt v12)]) (rest := []) cx.fix hw (cc_X8_common (l := l) (G := G) (sz := H.size) (M := M) hi e13) (w_cS 2 hts q_6 q_7 q_8 q_9 rfl rfl (by decide) (by decide)) hl.1 rfl (lv_room (Nat.le_of_ble_eq_true rfl)) dX8_commonWhole_76 (fun H locs hw => ?_)
      refine lv_lstore (lv' := [(4, .long (Int64.ofInt v13)), (0, .ref (adr 36)), (1, .int (Int32.ofInt a0)), (2, .int (Int32.ofInt a1)), (3, .int (Int32.ofInt a2))]) hx hb dX8_commonWhole_79 hl (by decide) rfl (fun ls hl => ?_)
      refine lv_iconst (v := Int32.ofInt (0)) hx hb dX8_commonWhole_81 rfl ?_
      refine lv_istore (lv' := [(6, .int (Int32.ofInt (0))), (4, .long (Int64.ofInt v13)), (0, .ref (adr 36)), (1, .int (Int32.ofInt a0)), (2, .int (Int32.ofInt a1)), (3, .int (Int32.ofInt a2))]) hx hb dX8_commonWhole_82 hl (by decide) rfl (fun ls hl => ?_)
      replace h := bnd h
      obtain ⟨o41, j39, h⟩ := h
      refine lp_W (Wst := fun (st : MI × Int) => ∀ (ls : Array Slot) (H : Heap) (locs : List Loc), lv_has ls 8 [(0, .ref (adr 36)), (1, .int (Int32.ofInt a0)), (2, .int (Int32.ofInt a1)), (3, .int (Int32.ofInt a2)), (4, .long (Int64.ofInt v13)), (6, .int (Int32.ofInt st.2))] → wH G A s.heap s (LL adr) (wf G adr (tm st.1)) H locs → W p l e { frames := 4, cells := 0, slots := 0, locals := 106 } s m args below meth c H locs 0 0 Q (F0 m 84 ls [])) (fin := fun (r : (MI) ⊕ (MI)) => match r with
      | .inl o => ∀ (pc : Nat) (ls : Array Slot) (H : Heap) (locs : List Loc), decode cX8_commonWhole pc = .ok (.return_, 1) → wH G A s.heap s (LL adr) (wf G adr (tm o)) H locs → W p l e { frames := 4, cells := 0, slots := 0, locals := 106 } s m args below meth c H locs 0 0 Q (F0 m pc ls [])
      | .inr q => ∀ (ls : Array Slot) (H : Heap) (locs : List Loc), lv_has ls 8 [] → wH G A s.heap s (LL adr) (wf G adr (tm q)) H locs → W p l e { frames := 4, cells := 0, slots := 0, locals := 106 } s m args below meth c H locs 0 0 Q (F0 m 235 ls [])) ?_ n _ _ j39 ?_ _ _ _ (lv_sub hl [2, 3, 4, 5, 1, 0] rfl) hw
      · clear h j39 hw hl
        intro ⟨M14, v15⟩ x h k1 k2 ls H locs hl hw
        (try dsimp only at k2 hl hw ⊢)
        unfold l_X8_commonWhole_84 at h
        (try dsimp only at h)
        refine lv_iload hx hb dX8_commonWhole_84 (lv_at hl 5 rfl) ?_
        refine lv_aload_n hx hb dX8_commonWhole_86 rfl (lv_at hl 0 rfl) ?_
        refine m_get (k := 36) (C := RX8) (T := TX8) (N := 18) (ref := "LiftFactorsModel") (v := .ref (adr 37)) hx hb hi hts inX8_u hown hw (by decide) rfl 0 (by decide) q_63 rfl rfl dX8_commonWhole_87 ?_
        replace h := bnd h
        obtain ⟨v16, e16, h⟩ := h
        refine o_len hx hb hi hw e16 dX8_commonWhole_90 ?_
        replace h := bnd h
        obtain ⟨_, hg, h⟩ := h
        refine o_icmp_ge (tgt := 235) hx hb hg dX8_commonWhole_91 (by decide) (fun hc => ?_) (fun hc => ?_)
        · replace h := ite_t hc h
          cases h
          exact k1 _ rfl _ _ _ (lv_sub hl [] rfl) hw
        · replace h := ite_f hc h
          refine lv_aload_n hx hb dX8_commonWhole_94 rfl (lv_at hl 0 rfl) ?_
          refine lv_iload hx hb dX8_commonWhole_95 (lv_at hl 5 rfl) ?_
          replace h := bnd h
          obtain ⟨v17, e17, h⟩ := h
          refine m_callVv (k := 36) (As := [.int (Int32.ofInt v15)]) (rest := []) cx.fix hi hw (cc_X8_takePrime (l := l) (G := G) (sz := H.size) hi e17) (by decide) rfl rfl (w_cV 1 hts q_69 q_70 q_71 q_72 q_73 rfl rfl (by decide) (by decide)) hl.1 rfl (lv_room (Nat.le_of_ble_eq_true rfl)) dX8_commonWhole_97 (fun H locs hw => ?_)
          refine lv_aload_n hx hb dX8_commonWhole_100 rfl (lv_at hl 0 rfl) ?_
          refine lv_iload_n hx hb dX8_commonWhole_101 rfl (lv_at hl 1 rfl) ?_
          refine lv_iconst (v := Int32.ofInt (5)) hx hb dX8_commonWhole_102 rfl ?_
          replace h := bnd h
          obtain ⟨v18, e18, h⟩ := h
          refine m_callVv (k := 36) (As := [.int (Int32.ofInt a0), .int (Int32.ofInt (5))]) (rest := []) cx.fix hi hw (cc_X8_copy (l := l) (G := G) (sz := H.size) hi e18) (by decide) rfl rfl (w_cV 2 hts q_24 q_25 q_26 q_27 q_28 rfl rfl (by decide) (by decide)) hl.1 rfl (lv_room (Nat.le_of_ble_eq_true rfl)) dX8_commonWhole_103 (fun H locs hw => ?_)
          refine lv_aload_n hx hb dX8_commonWhole_106 rfl (lv_at hl 0 rfl) ?_
          refine lv_iload_n hx hb dX8_commonWhole_107 rfl (lv_at hl 2 rfl) ?_
          refine lv_bipush (v := Int32.ofInt (6)) hx hb dX8_commonWhole_108 rfl ?_
          replace h := bnd h
          obtain ⟨v19, e19, h⟩ := h
          refine m_callVv (k := 36) (As := [.int (Int32.ofInt a1), .int (Int32.ofInt (6))]) (rest := []) cx.fix hi hw (cc_X8_copy (l := l) (G := G) (sz := H.size) hi e19) (by decide) rfl rfl (w_cV 2 hts q_24 q_25 q_26 q_27 q_28 rfl rfl (by decide) (by decide)) hl.1 rfl (lv_room (Nat.le_of_ble_eq_true rfl)) dX8_commonWhole_110 (fun H locs hw => ?_)
          refine lv_aload_n hx hb dX8_commonWhole_113 rfl (lv_at hl 0 rfl) ?_
          refine lv_iconst (v := Int32.ofInt (5)) hx hb dX8_commonWhole_114 rfl ?_
          replace h := bnd h
          obtain ⟨v20, e20, h⟩ := h
          refine m_callVv (k := 36) (As := [.int (Int32.ofInt (5))]) (rest := []) cx.fix hi hw (cc_X8_reduce (l := l) (G := G) (sz := H.size) hi e20) (by decide) rfl rfl (w_cV 1 hts q_74 q_75 q_76 q_77 q_78 rfl rfl (by decide) (by decide)) hl.1 rfl (lv_room (Nat.le_of_ble_eq_true rfl)) dX8_commonWhole_115 (fun H locs hw => ?_)
          refine lv_aload_n hx hb dX8_commonWhole_118 rfl (lv_at hl 0 rfl) ?_
          refine lv_bipush (v := Int32.ofInt (6)) hx hb dX8_commonWhole_119 rfl ?_
          replace h := bnd h
          obtain ⟨v21, e21, h⟩ := h
          refine m_callVv (k := 36) (As := [.int (Int32.ofInt (6))]) (rest := []) cx.fix hi hw (cc_X8_reduce (l := l) (G := G) (sz := H.size) hi e21) (by decide) rfl rfl (w_cV 1 hts q_74 q_75 q_76 q_77 q_78 rfl rfl (by decide) (by decide)) hl.1 rfl (lv_room (Nat.le_of_ble_eq_true rfl)) dX8_commonWhole_121 (fun H locs hw => ?_)
          refine lv_aload_n hx hb dX8_commonWhole_124 rfl (lv_at hl 0 rfl) ?_
          refine lv_iconst (v := Int32.ofInt (5)) hx hb dX8_commonWhole_125 rfl ?_
          refine lv_bipush (v := Int32.ofInt (6)) hx hb dX8_commonWhole_126 rfl ?_
          refine lv_bipush (v := Int32.ofInt (7)) hx hb dX8_commonWhole_128 rfl ?_
          replace h := bnd h
          obtain ⟨v22, e22, h⟩ := h
          refine m_callVv (k := 36) (As := [.int (Int32.ofInt (5)), .int (Int32.ofInt (6)), .int (Int32.ofInt (7))]) (rest := []) cx.fix hi hw (cc_X8_commonRow (l := l) (G := G) (sz := H.size) hi e22) (by decide) rfl rfl (w_cV 3 hts q_79 q_80 q_81 q_82 q_83 rfl rfl (by decide) (by decide)) hl.1 rfl (lv_room (Nat.le_of_ble_eq_true rfl)) dX8_commonWhole_130 (fun H locs hw => ?_)
          refine lv_iconst (v := Int32.ofInt (0)) hx hb dX8_commonWhole_133 rfl ?_
          refine lv_istore (lv' := [(7, .int (Int32.ofInt (0))), (0, .ref (adr 36)), (1, .int (Int32.ofInt a0)), (2, .int (Int32.ofInt a1)), (3, .int (Int32.ofInt a2)), (4, .long (Int64.ofInt v13)), (6, .int (Int32.ofInt v15))]) hx hb dX8_commonWhole_134 hl (by decide) rfl (fun ls hl => ?_)
          replace h := bnd h
          obtain ⟨M30, j29, h⟩ := h
          refine lp_W (Wst := fun (st : MI × Int) => ∀ (ls : Array Slot) (H : Heap) (locs : List Loc), lv_has ls 8 [(0, .ref (adr 36)), (1, .int (Int32.ofInt a0)), (2, .int (Int32.ofInt a1)), (3, .int (Int32.ofInt a2)), (4, .long (Int64.ofInt v13)), (6, .int (Int32.ofInt v15)), (7, .int (Int32.ofInt st.2))] → wH G A s.heap s (LL adr) (wf G adr (tm st.1)) H locs → W p l e { frames := 4, cells := 0, slots := 0, locals := 106 } s m args below meth c H locs 0 0 Q (F0 m 136 ls [])) (fin := fun (r : MI) => ∀ (ls : Array Slot) (H : Heap) (locs : List Loc), lv_has ls 8 [(0, .ref (adr 36)), (1, .int (Int32.ofInt a0)), (2, .int (Int32.ofInt a1)), (3, .int (Int32.ofInt a2)), (4, .long (Int64.ofInt v13)), (6, .int (Int32.ofInt v15))] → wH G A s.heap s (LL adr) (wf G adr (tm r)) H locs → W p l e { frames := 4, cells := 0, slots := 0, locals := 106 } s m args below meth c H locs 0 0 Q (F0 m 182 ls [])) ?_ n _ _ j29 ?_ _ _ _ (lv_sub hl [1, 2, 3, 4, 5, 6, 0] rfl) hw
          · clear h j29 hw hl
            intro ⟨M23, v24⟩ x h k1 k2 ls H locs hl hw
            (try dsimp only at k1 k2 hl hw ⊢)
            unfold l_X8_commonWhole_136 at h
            (try dsimp only at h)
            refine lv_iload hx hb dX8_commonWhole_136 (lv_at hl 6 rfl) ?_
            refine lv_aload_n hx hb dX8_commonWhole_138 rfl (lv_at hl 0 rfl) ?_
            refine m_get (k := 36) (C := RX8) (T := TX8) (N := 18) (ref := "LiftFactorsModel") (v := .ref (adr 42)) hx hb hi hts inX8_u hown hw (by decide) rfl 8 (by decide) q_1 rfl rfl dX8_commonWhole_139 ?_
            refine lv_bipush (v := Int32.ofInt (7)) hx hb dX8_commonWhole_142 rfl ?_
            replace h := bnd h
            obtain ⟨v25, e25, h⟩ := h
            refine o_iald hx hb hi hw e25 dX8_commonWhole_144 ?_
            replace h := bnd h
            obtain ⟨_, hg, h⟩ := h
            refine o_icmp_gt (tgt := 182) hx hb hg dX8_commonWhole_145 (by decide) (fun hc => ?_) (fun hc => ?_)
            · replace h := ite_t hc h
              cases h
              exact k1 _ rfl _ _ _ (lv_sub hl [0, 1, 2, 3, 4, 5] rfl) hw
            · replace h := ite_f hc h
              refine lv_aload_n hx hb dX8_commonWhole_148 rfl (lv_at hl 0 rfl) ?_
              refine m_get (k := 36) (C := RX8) (T := TX8) (N := 18) (ref := "LiftFactorsModel") (v := .ref (adr 41)) hx hb hi hts inX8_u hown hw (by decide) rfl 7 (by decide) q_0 rfl rfl dX8_commonWhole_149 ?_
              refine lv_sipush (v := Int32.ofInt (168)) hx hb dX8_commonWhole_152 rfl ?_
              refine lv_iload hx hb dX8_commonWhole_155 (lv_at hl 6 rfl) ?_
              refine o_iadd hx hb dX8_commonWhole_157 ?_
              refine lv_aload_n hx hb dX8_commonWhole_158 rfl (lv_at hl 0 rfl) ?_
              refine lv_aload_n hx hb dX8_commonWhole_159 rfl (lv_at hl 0 rfl) ?_
              refine m_get (k := 36) (C := RX8) (T := TX8) (N := 18) (ref := "LiftFactorsModel") (v := .ref (adr 41)) hx hb hi hts inX8_u hown hw (by decide) rfl 7 (by decide) q_0 rfl rfl dX8_commonWhole_160 ?_
              refine lv_sipush (v := Int32.ofInt (168)) hx hb dX8_commonWhole_163 rfl ?_
              refine lv_iload hx hb dX8_commonWhole_166 (lv_at hl 6 rfl) ?_
              refine o_iadd hx hb dX8_commonWhole_168 ?_
              replace h := bnd h
              obtain ⟨v26, e26, h⟩ := h
              refine o_lald hx hb hi hw e26 dX8_commonWhole_169 ?_
              refine lv_lload hx hb dX8_commonWhole_170 (lv_at hl 4 rfl) ?_
              replace h := bnd h
              obtain ⟨v27, e27, h⟩ := h
              refine m_callVl (k := 36) (As := [.long (Int64.ofInt v26), .long (Int64.ofInt v13)]) (rest := [.int (Int32.ofInt ((168) + v24)), .ref (adr 41)]) cx.fix hi hw (cc_X8_product (l := l) (G := G) (sz := H.size) hi e27) (by decide) rfl rfl (w_cV 2 hts q_31 q_32 q_33 q_34 q_35 rfl rfl (by decide) (by decide)) hl.1 rfl (lv_room (Nat.le_of_ble_eq_true rfl)) dX8_commonWhole_172 (fun H locs hw => ?_)
              replace h := bnd h
              obtain ⟨v28, e28, h⟩ := h
              refine o_last hx hb hi hw e28 dX8_commonWhole_175 (fun H locs hw => ?_)
              refine lv_iinc (v := Int32.ofInt (v24 + 1)) (lv' := [(7, .int (Int32.ofInt (v24 + 1))), (0, .ref (adr 36)), (1, .int (Int32.ofInt a0)), (2, .int (Int32.ofInt a1)), (3, .int (Int32.ofInt a2)), (4, .long (Int64.ofInt v13)), (6, .int (Int32.ofInt v15))]) hx hb dX8_commonWhole_176 hl (k := 6) rfl (inc_o _ _) (by decide) rfl (fun ls hl => ?_)
              refine lv_goto (tgt := 136) hx hb dX8_commonWhole_179 (by decide) ?_
              cases h
              exact k2 _ rfl _ _ _ (lv_sub hl [1, 2, 3, 4, 5, 6, 0] rfl) hw
          · clear hw hl
            intro ls H locs hl hw
            (try dsimp only at hl hw ⊢)
            refine lv_aload_n hx hb dX8_commonWhole_182 rfl (lv_at hl 0 rfl) ?_
            refine lv_bipush (v := Int32.ofInt (7)) hx hb dX8_commonWhole_183 rfl ?_
            replace h := bnd h
            obtain ⟨v31, e31, h⟩ := h
            refine m_callVv (k := 36) (As := [.int (Int32.ofInt (7))]) (rest := []) cx.fix hi hw (cc_X8_center (l := l) (G := G) (sz := H.size) hi e31) (by decide) rfl rfl (w_cV 1 hts q_84 q_85 q_86 q_87 q_88 rfl rfl (by decide) (by decide)) hl.1 rfl (lv_room (Nat.le_of_ble_eq_true rfl)) dX8_commonWhole_185 (fun H locs hw => ?_)
            refine lv_aload_n hx hb dX8_commonWhole_188 rfl (lv_at hl 0 rfl) ?_
            refine lv_bipush (v := Int32.ofInt (7)) hx hb dX8_commonWhole_189 rfl ?_
            replace h := bnd h
            obtain ⟨⟨v32, M33⟩, e32, h⟩ := h
            refine m_callVl (k := 36) (As := [.int (Int32.ofInt (7))]) (rest := []) cx.fix hi hw (cc_X8_primitive (l := l) (G := G) (sz := H.size) hi e32) (by decide) rfl rfl (w_cV 1 hts q_64 q_65 q_66 q_67 q_68 rfl rfl (by decide) (by decide)) hl.1 rfl (lv_room (Nat.le_of_ble_eq_true rfl)) dX8_commonWhole_191 (fun H locs hw => ?_)
            refine lv_pop2_2 hx hb dX8_commonWhole_194 rfl ?_
            refine lv_aload_n hx hb dX8_commonWhole_195 rfl (lv_at hl 0 rfl) ?_
            refine lv_bipush (v := Int32.ofInt (7)) hx hb dX8_commonWhole_196 rfl ?_
            refine lv_iload_n hx hb dX8_commonWhole_198 rfl (lv_at hl 1 rfl) ?_
            refine lv_ldc2 (v := Int64.ofInt (400000000)) hx hb hown (hts _ q_89) dX8_commonWhole_199 ?_
            replace h := bnd h
            obtain ⟨⟨v34, M35⟩, e34, h⟩ := h
            refine m_callVi (k := 36) (As := [.int (Int32.ofInt (7)), .int (Int32.ofInt a0), .long (Int64.ofInt (400000000))]) (rest := []) cx.fix hi hw (cc_X8_divides (l := l) (G := G) (sz := H.size) hi e34) (by decide) rfl rfl (w_cV 3 hts q_90 q_91 q_92 q_93 q_94 rfl rfl (by decide) (by decide)) hl.1 rfl (lv_room (Nat.le_of_ble_eq_true rfl)) dX8_commonWhole_202 (fun H locs hw => ?_)
            replace h := bnd h
            obtain ⟨_, hg, h⟩ := h
            refine o_if_eq (tgt := 229) hx hb hg dX8_commonWhole_205 (by decide) (fun hc => ?_) (fun hc => ?_)
            · replace h := ite_t hc h
              refine lv_iinc (v := Int32.ofInt (v15 + 1)) (lv' := [(6, .int (Int32.ofInt (v15 + 1))), (0, .ref (adr 36)), (1, .int (Int32.ofInt a0)), (2, .int (Int32.ofInt a1)), (3, .int (Int32.ofInt a2)), (4, .long (Int64.ofInt v13))]) hx hb dX8_commonWhole_229 hl (k := 5) rfl (inc_o _ _) (by decide) rfl (fun ls hl => ?_)
              refine lv_goto (tgt := 84) hx hb dX8_commonWhole_232 (by decide) ?_
              cases h
              exact k2 _ rfl _ _ _ (lv_sub hl [1, 2, 3, 4, 5, 0] rfl) hw
            · replace h := ite_f hc h
              refine lv_aload_n hx hb dX8_commonWhole_208 rfl (lv_at hl 0 rfl) ?_
              refine lv_bipush (v := Int32.ofInt (7)) hx hb dX8_commonWhole_209 rfl ?_
              refine lv_iload_n hx hb dX8_commonWhole_211 rfl (lv_at hl 2 rfl) ?_
              refine lv_ldc2 (v := Int64.ofInt (400000000)) hx hb hown (hts _ q_89) dX8_commonWhole_212 ?_
              replace h := bnd h
              obtain ⟨⟨v36, M37⟩, e36, h⟩ := h
              refine m_callVi (k := 36) (As := [.int (Int32.ofInt (7)), .int (Int32.ofInt a1), .long (Int64.ofInt (400000000))]) (rest := []) cx.fix hi hw (cc_X8_divides (l := l) (G := G) (sz := H.size) hi e36) (by decide) rfl rfl (w_cV 3 hts q_90 q_91 q_92 q_93 q_94 rfl rfl (by decide) (by decide)) hl.1 rfl (lv_room (Nat.le_of_ble_eq_true rfl)) dX8_commonWhole_215 (fun H locs hw => ?_)
              replace h := bnd h
              obtain ⟨_, hg, h⟩ := h
              refine o_if_eq (tgt := 229) hx hb hg dX8_commonWhole_218 (by decide) (fun hc => ?_) (fun hc => ?_)
              · replace h := ite_t hc h
                refine lv_iinc (v := Int32.ofInt (v15 + 1)) (lv' := [(6, .int (Int32.ofInt (v15 + 1))), (0, .ref (adr 36)), (1, .int (Int32.ofInt a0)), (2, .int (Int32.ofInt a1)), (3, .int (Int32.ofInt a2)), (4, .long (Int64.ofInt v13))]) hx hb dX8_commonWhole_229 hl (k := 5) rfl (inc_o _ _) (by decide) rfl (fun ls hl => ?_)
                refine lv_goto (tgt := 84) hx hb dX8_commonWhole_232 (by decide) ?_
                cases h
                exact k2 _ rfl _ _ _ (lv_sub hl [1, 2, 3, 4, 5, 0] rfl) hw
              · replace h := ite_f hc h
                refine lv_aload_n hx hb dX8_commonWhole_221 rfl (lv_at hl 0 rfl) ?_
                refine lv_bipush (v := Int32.ofInt (7)) hx hb dX8_commonWhole_222 rfl ?_
                refine lv_iload_n hx hb dX8_commonWhole_224 rfl (lv_at hl 3 rfl) ?_
                replace h := bnd h
                obtain ⟨v38, e38, h⟩ := h
                refine m_callVv (k := 36) (As := [.int (Int32.ofInt (7)), .int (Int32.ofInt a2)]) (rest := []) cx.fix hi hw (cc_X8_copy (l := l) (G := G) (sz := H.size) hi e38) (by decide) rfl rfl (w_cV 2 hts q_24 q_25 q_26 q_27 q_28 rfl rfl (by decide) (by decide)) hl.1 rfl (lv_room (Nat.le_of_ble_eq_true rfl)) dX8_commonWhole_225 (fun H locs hw => ?_)
                cases h
                exact k1 _ rfl _ _ _ _ dX8_commonWhole_228 hw
      · clear hw hl j39
        rcases o41 with o9 | M40
        · cases h
          exact kr
        · intro ls H locs hl hw
          (try dsimp only at h hl hw ⊢)
          cases h
          exact kr _ _ _ _ dX8_commonWhole_235 hw
    · replace h := ite_f hc h
      refine lv_aload_n hx hb dX8_commonWhole_18 rfl (lv_at hl 0 rfl) ?_
      refine lv_aload_n hx hb dX8_commonWhole_19 rfl (lv_at hl 0 rfl) ?_
      refine m_get (k := 36) (C := RX8) (T := TX8) (N := 18) (ref := "LiftFactorsModel") (v := .ref (adr 42)) hx hb hi hts inX8_u hown hw (by decide) rfl 8 (by decide) q_1 rfl rfl dX8_commonWhole_20 ?_
      refine lv_iload_n hx hb dX8_commonWhole_23 rfl (lv_at hl 1 rfl) ?_
      replace h := bnd h
      obtain ⟨v42, e42, h⟩ := h
      refine o_iald hx hb hi hw e42 dX8_commonWhole_24 ?_
      replace h := bnd h
      obtain ⟨v43, j47, h⟩ := h
      have kj : ∀ (ls : Array Slot) (H : Heap) (locs : List Loc), lv_has ls 8 [(0, .ref (adr 36)), (3, .int (Int32.ofInt a2))] → wH G A s.heap s (LL adr) (wf G adr (tm M)) H locs → W p l e { frames := 4, cells := 0, slots := 0, locals := 106 } s m args below meth c H locs 0 0 Q (F0 m 33 ls [.int (Int32.ofInt v43), .ref (adr 36)]) := by
        intro ls H locs hl hw
        refine lv_iload_n hx hb dX8_commonWhole_33 rfl (lv_at hl 1 rfl) ?_
        replace h := bnd h
        obtain ⟨v44, e44, h⟩ := h
        refine m_callVv (k := 36) (As := [.int (Int32.ofInt v43), .int (Int32.ofInt a2)]) (rest := []) cx.fix hi hw (cc_X8_copy (l := l) (G := G) (sz := H.size) hi e44) (by decide) rfl rfl (w_cV 2 hts q_24 q_25 q_26 q_27 q_28 rfl rfl (by decide) (by decide)) hl.1 rfl (lv_room (Nat.le_of_ble_eq_true rfl)) dX8_commonWhole_34 (fun H locs hw => ?_)
        refine lv_aload_n hx hb dX8_commonWhole_37 rfl (lv_at hl 0 rfl) ?_
        refine lv_iload_n hx hb dX8_commonWhole_38 rfl (lv_at hl 1 rfl) ?_
        replace h := bnd h
        obtain ⟨⟨v45, M46⟩, e45, h⟩ := h
        refine m_callVl (k := 36) (As := [.int (Int32.ofInt a2)]) (rest := []) cx.fix hi hw (cc_X8_primitive (l := l) (G := G) (sz := H.size) hi e45) (by decide) rfl rfl (w_cV 1 hts q_64 q_65 q_66 q_67 q_68 rfl rfl (by decide) (by decide)) hl.1 rfl (lv_room (Nat.le_of_ble_eq_true rfl)) dX8_commonWhole_39 (fun H locs hw => ?_)
        refine lv_pop2_2 hx hb dX8_commonWhole_42 rfl ?_
        cases h
        exact kr _ _ _ _ dX8_commonWhole_43 hw
      clear h
      replace h := j47
      clear j47
      replace h := bnd h
      obtain ⟨_, hg, h⟩ := h
      refine o_if_ge (tgt := 32) hx hb hg dX8_commonWhole_25 (by decide) (fun hc => ?_) (fun hc => ?_)
      · replace h := ite_t hc h
        refine lv_iload_n hx hb dX8_commonWhole_32 rfl (lv_at hl 1 rfl) ?_
        cases h
        exact kj _ _ _ (lv_sub hl [0, 3] rfl) hw
      · replace h := ite_f hc h
        refine lv_iload_n hx hb dX8_commonWhole_28 rfl (lv_at hl 2 rfl) ?_
        refine lv_goto (tgt := 33) hx hb dX8_commonWhole_29 (by decide) ?_
        cases h
        exact kj _ _ _ (lv_sub hl [0, 3] rfl) hw
theorem cc_X8_commonWhole {l : Launch} {G : gG} {adr : Nat → Nat} {sz : Nat} (hi : adi adr) {n : Nat} {a0 : Int} {a1 : Int} {a2 : Int} {M M' : MI} (h : f_X8_commonWhole n a0 a1 a2 M = some M') : mV l yX8_commonWhole cX8_commonWhole 8 none { frames := 4, cells := 0, slots := 0, locals := 106 } G adr [.ref (adr 36), .int (Int32.ofInt a0), .int (Int32.ofInt a1), .int (Int32.ofInt a2)] (tm M) sz (tm M') := by
  refine wEnter (by decide) (Nat.le_of_ble_eq_true rfl) ?_
  intro p e s m below meth c ls cx hinit hl hsz hw
  exact b_X8_commonWhole cx hi h (fun pc ls H locs hd hw => w_vret (post := fun (u : Mem) => u = tm M') (lf := fun u => (LL adr, wf G adr u)) cx.1 cx.2.1 cx.2.2.1 cx.2.2.2.2.2.2 (tm M') hw rfl hd) hl hw
theorem q_95 : Cond.fieldLink RX8 129 "LiftFactorsModel" "parts" "I" ∈ uU := uU_in (by decide +kernel) (by decide +kernel)
def f_X8_addPart (n : Nat) (a0 : Int) (M : MI) : Option MI :=
  Option.bind (f_X8_copy n a0 ((24) + (M.2 36 10)) M) fun v1 =>
  Option.bind (opI v1 36 10 ((v1.2 36 10) + (1))) fun v2 =>
  some v2
set_option maxRecDepth 100000 in
set_option maxHeartbeats 8000000 in
theorem b_X8_addPart {p : Program} {l : Launch} {e : Env} {s : State} {m : MethodId} {args : Array Value} {below : List Frame} {meth : Method} {c : Code} {Q : State → Prop} {G : gG} {A : Nat → Prop} {adr : Nat → Nat} (cx : cX p s m args meth c cX8_addPart none 2 yX8_addPart.cls) (hi : adi adr) {n : Nat} {a0 : Int} {M M' : MI} 
    (h : f_X8_addPart n a0 M = some M')
    (kr : ∀ (pc : Nat) (ls : Array Slot) (H : Heap) (locs : List Loc), decode cX8_addPart pc = .ok (.return_, 1) → wH G A s.heap s (LL adr) (wf G adr (tm M')) H locs → W p l e { frames := 1, cells := 0, slots := 0, locals := 23 } s m args below meth c H locs 0 0 Q (F0 m pc ls []))
    {ls : Array Slot} {H : Heap} {locs : List Loc} (hl : lv_has ls 2 [(0, .ref (adr 36)), (1, .int (Int32.ofInt a0))]) (hw : wH G A s.heap s (LL adr) (wf G adr (tm M)) H locs) : W p l e { frames := 1, cells := 0, slots := 0, locals := 23 } s m args below meth c H locs 0 0 Q (F0 m 0 ls []) := by
  obtain ⟨hx, hb, -, -, hown, hts, -⟩ := id cx
  have hown : s.vm.findClass RX8 = some m.cls := hown
  unfold f_X8_addPart at h
  refine lv_aload_n hx hb dX8_addPart_0 rfl (lv_at hl 0 rfl) ?_
  refine lv_iload_n hx hb dX8_addPart_1 rfl (lv_at hl 1 rfl) ?_
  refine lv_bipush (v := Int32.ofInt (24)) hx hb dX8_addPart_2 rfl ?_
  refine lv_aload_n hx hb dX8_addPart_4 rfl (lv_at hl 0 rfl) ?_
  refine m_get (k := 36) (C := RX8) (T := TX8) (N := 18) (ref := "LiftFactorsModel") (v := .int (Int32.ofInt (M.2 36 10))) hx hb hi hts inX8_u hown hw (by decide) rfl 10 (by decide) q_95 rfl rfl dX8_addPart_5 ?_
  refine o_iadd hx hb dX8_addPart_8 ?_
  replace h := bnd h
  obtain ⟨v1, e1, h⟩ := h
  refine m_callVv (k := 36) (As := [.int (Int32.ofInt a0), .int (Int32.ofInt ((24) + (M.2 36 10)))]) (rest := []) cx.fix hi hw (cc_X8_copy (l := l) (G := G) (sz := H.size) hi e1) (by decide) rfl rfl (w_cV 2 hts q_24 q_25 q_26 q_27 q_28 rfl rfl (by decide) (by decide)) hl.1 rfl (lv_room (Nat.le_of_ble_eq_true rfl)) dX8_addPart_9 (fun H locs hw => ?_)
  refine lv_aload_n hx hb dX8_addPart_12 rfl (lv_at hl 0 rfl) ?_
  refine lv_dup hx hb dX8_addPart_13 rfl ?_
  refine m_get (k := 36) (C := RX8) (T := TX8) (N := 18) (ref := "LiftFactorsModel") (v := .int (Int32.ofInt (v1.2 36 10))) hx hb hi hts inX8_u hown hw (by decide) rfl 10 (by decide) q_95 rfl rfl dX8_addPart_14 ?_
  refine lv_iconst (v := Int32.ofInt (1)) hx hb dX8_addPart_17 rfl ?_
  refine o_iadd hx hb dX8_addPart_18 ?_
  replace h := bnd h
  obtain ⟨v2, e2, h⟩ := h
  refine o_putI (k := 36) (C := RX8) (T := TX8) (N := 18) (ref := "LiftFactorsModel") hx hb hi hts inX8_u tyX8 tyX8_ok nmX8 hown hw (by decide) rfl 10 (by decide) q_95 rfl rfl e2 (by decide +kernel) rfl dX8_addPart_19 (fun H locs hw => ?_)
  cases h
  exact kr _ _ _ _ dX8_addPart_22 hw
theorem cc_X8_addPart {l : Launch} {G : gG} {adr : Nat → Nat} {sz : Nat} (hi : adi adr) {n : Nat} {a0 : Int} {M M' : MI} (h : f_X8_addPart n a0 M = some M') : mV l yX8_addPart cX8_addPart 2 none { frames := 1, cells := 0, slots := 0, locals := 23 } G adr [.ref (adr 36), .int (Int32.ofInt a0)] (tm M) sz (tm M') := by
  refine wEnter (by decide) (Nat.le_of_ble_eq_true rfl) ?_
  intro p e s m below meth c ls cx hinit hl hsz hw
  exact b_X8_addPart cx hi h (fun pc ls H locs hd hw => w_vret (post := fun (u : Mem) => u = tm M') (lf := fun u => (LL adr, wf G adr u)) cx.1 cx.2.1 cx.2.2.1 cx.2.2.2.2.2.2 (tm M') hw rfl hd) hl hw
def f_X8_letter (a0 : Int) (M : MI) : Option MI :=
  Option.bind (osJ M 41 ((24) * a0) (0)) fun v1 =>
  Option.bind (osJ v1 41 (((24) * a0) + (1)) (1)) fun v2 =>
  Option.bind (osI v2 42 a0 (1)) fun v3 =>
  some v3
set_option maxRecDepth 100000 in
set_option maxHeartbeats 8000000 in
theorem b_X8_letter {p : Program} {l : Launch} {e : Env} {s : State} {m : MethodId} {args : Array Value} {below : List Frame} {meth : Method} {c : Code} {Q : State → Prop} {G : gG} {A : Nat → Prop} {adr : Nat → Nat} (cx : cX p s m args meth c cX8_letter none 2 yX8_letter.cls) (hi : adi adr) {a0 : Int} {M M' : MI} 
    (h : f_X8_letter a0 M = some M')
    (kr : ∀ (pc : Nat) (ls : Array Slot) (H : Heap) (locs : List Loc), decode cX8_letter pc = .ok (.return_, 1) → wH G A s.heap s (LL adr) (wf G adr (tm M')) H locs → W p l e { frames := 0, cells := 0, slots := 0, locals := 0 } s m args below meth c H locs 0 0 Q (F0 m pc ls []))
    {ls : Array Slot} {H : Heap} {locs : List Loc} (hl : lv_has ls 2 [(0, .ref (adr 36)), (1, .int (Int32.ofInt a0))]) (hw : wH G A s.heap s (LL adr) (wf G adr (tm M)) H locs) : W p l e { frames := 0, cells := 0, slots := 0, locals := 0 } s m args below meth c H locs 0 0 Q (F0 m 0 ls []) := by
  obtain ⟨hx, hb, -, -, hown, hts, -⟩ := id cx
  have hown : s.vm.findClass RX8 = some m.cls := hown
  unfold f_X8_letter at h
  refine lv_aload_n hx hb dX8_letter_0 rfl (lv_at hl 0 rfl) ?_
  refine m_get (k := 36) (C := RX8) (T := TX8) (N := 18) (ref := "LiftFactorsModel") (v := .ref (adr 41)) hx hb hi hts inX8_u hown hw (by decide) rfl 7 (by decide) q_0 rfl rfl dX8_letter_1 ?_
  refine lv_bipush (v := Int32.ofInt (24)) hx hb dX8_letter_4 rfl ?_
  refine lv_iload_n hx hb dX8_letter_6 rfl (lv_at hl 1 rfl) ?_
  refine o_imul hx hb dX8_letter_7 ?_
  refine lv_lconst (v := Int64.ofInt (0)) hx hb dX8_letter_8 (by decide) ?_
  replace h := bnd h
  obtain ⟨v1, e1, h⟩ := h
  refine o_last hx hb hi hw e1 dX8_letter_9 (fun H locs hw => ?_)
  refine lv_aload_n hx hb dX8_letter_10 rfl (lv_at hl 0 rfl) ?_
  refine m_get (k := 36) (C := RX8) (T := TX8) (N := 18) (ref := "LiftFactorsModel") (v := .ref (adr 41)) hx hb hi hts inX8_u hown hw (by decide) rfl 7 (by decide) q_0 rfl rfl dX8_letter_11 ?_
  refine lv_bipush (v := Int32.ofInt (24)) hx hb dX8_letter_14 rfl ?_
  refine lv_iload_n hx hb dX8_letter_16 rfl (lv_at hl 1 rfl) ?_
  refine o_imul hx hb dX8_letter_17 ?_
  refine lv_iconst (v := Int32.ofInt (1)) hx hb dX8_letter_18 rfl ?_
  refine o_iadd hx hb dX8_letter_19 ?_
  refine lv_lconst (v := Int64.ofInt (1)) hx hb dX8_letter_20 (by decide) ?_
  replace h := bnd h
  obtain ⟨v2, e2, h⟩ := h
  refine o_last hx hb hi hw e2 dX8_letter_21 (fun H locs hw => ?_)
  refine lv_aload_n hx hb dX8_letter_22 rfl (lv_at hl 0 rfl) ?_
  refine m_get (k := 36) (C := RX8) (T := TX8) (N := 18) (ref := "LiftFactorsModel") (v := .ref (adr 42)) hx hb hi hts inX8_u hown hw (by decide) rfl 8 (by decide) q_1 rfl rfl dX8_letter_23 ?_
  refine lv_iload_n hx hb dX8_letter_26 rfl (lv_at hl 1 rfl) ?_
  refine lv_iconst (v := Int32.ofInt (1)) hx hb dX8_letter_27 rfl ?_
  replace h := bnd h
  obtain ⟨v3, e3, h⟩ := h
  refine o_iast hx hb hi hw e3 dX8_letter_28 (fun H locs hw => ?_)
  cases h
  exact kr _ _ _ _ dX8_letter_29 hw
theorem cc_X8_letter {l : Launch} {G : gG} {adr : Nat → Nat} {sz : Nat} (hi : adi adr) {a0 : Int} {M M' : MI} (h : f_X8_letter a0 M = some M') : mV l yX8_letter cX8_letter 2 none { frames := 0, cells := 0, slots := 0, locals := 0 } G adr [.ref (adr 36), .int (Int32.ofInt a0)] (tm M) sz (tm M') := by
  refine wEnter (by decide) (Nat.le_of_ble_eq_true rfl) ?_
  intro p e s m below meth c ls cx hinit hl hsz hw
  exact b_X8_letter cx hi h (fun pc ls H locs hd hw => w_vret (post := fun (u : Mem) => u = tm M') (lf := fun u => (LL adr, wf G adr u)) cx.1 cx.2.1 cx.2.2.1 cx.2.2.2.2.2.2 (tm M') hw rfl hd) hl hw
def f_X8_addConstant (n : Nat) (a0 : Int) (a1 : Int) (M : MI) : Option MI :=
  Option.bind (odI M 42 a0) fun v1 =>
  Option.bind (gI v1 0) fun _ =>
  if 0 ≤ v1 then
    Option.bind (odJ M 41 ((24) * a0)) fun v2 =>
    Option.bind (orJ (v2 + a1) (M.1 36 9)) fun v3 =>
    Option.bind (osJ M 41 ((24) * a0) v3) fun v4 =>
    Option.bind (odI v4 42 a0) fun v5 =>
    Option.bind (f_X8_trim n a0 v5 v4) fun v6 =>
    some v6
  else
    Option.bind (orJ a1 (M.1 36 9)) fun v7 =>
    Option.bind (f_X8_constant a0 v7 M) fun v8 =>
    some v8
set_option maxRecDepth 100000 in
set_option maxHeartbeats 8000000 in
theorem b_X8_addConstant {p : Program} {l : Launch} {e : Env} {s : State} {m : MethodId} {args : Array Value} {below : List Frame} {meth : Method} {c : Code} {Q : State → Prop} {G : gG} {A : Nat → Prop} {adr : Nat → Nat} (cx : cX p s m args meth c cX8_addConstant none 4 yX8_addConstant.cls) (hi : adi adr) {n : Nat} {a0 : Int} {a1 : Int} {M M' : MI} 
    (h : f_X8_addConstant n a0 a1 M = some M')
    (kr : ∀ (pc : Nat) (ls : Array Slot) (H : Heap) (locs : List Loc), decode cX8_addConstant pc = .ok (.return_, 1) → wH G A s.heap s (LL adr) (wf G adr (tm M')) H locs → W p l e { frames := 1, cells := 0, slots := 0, locals := 23 } s m args below meth c H locs 0 0 Q (F0 m pc ls []))
    {ls : Array Slot} {H : Heap} {locs : List Loc} (hl : lv_has ls 4 [(0, .ref (adr 36)), (1, .int (Int32.ofInt a0)), (2, .long (Int64.ofInt a1))]) (hw : wH G A s.heap s (LL adr) (wf G adr (tm M)) H locs) : W p l e { frames := 1, cells := 0, slots := 0, locals := 23 } s m args below meth c H locs 0 0 Q (F0 m 0 ls []) := by
  obtain ⟨hx, hb, -, -, hown, hts, -⟩ := id cx
  have hown : s.vm.findClass RX8 = some m.cls := hown
  unfold f_X8_addConstant at h
  refine lv_aload_n hx hb dX8_addConstant_0 rfl (lv_at hl 0 rfl) ?_
  refine m_get (k := 36) (C := RX8) (T := TX8) (N := 18) (ref := "LiftFactorsModel") (v := .ref (adr 42)) hx hb hi hts inX8_u hown hw (by decide) rfl 8 (by decide) q_1 rfl rfl dX8_addConstant_1 ?_
  refine lv_iload_n hx hb dX8_addConstant_4 rfl (lv_at hl 1 rfl) ?_
  replace h := bnd h
  obtain ⟨v1, e1, h⟩ := h
  refine o_iald hx hb hi hw e1 dX8_addConstant_5 ?_
  replace h := bnd h
  obtain ⟨_, hg, h⟩ := h
  refine o_if_ge (tgt := 21) hx hb hg dX8_addConstant_6 (by decide) (fun hc => ?_) (fun hc => ?_)
  · replace h := ite_t hc h
    refine lv_aload_n hx hb dX8_addConstant_21 rfl (lv_at hl 0 rfl) ?_
    refine m_get (k := 36) (C := RX8) (T := TX8) (N := 18) (ref := "LiftFactorsModel") (v := .ref (adr 41)) hx hb hi hts inX8_u hown hw (by decide) rfl 7 (by decide) q_0 rfl rfl dX8_addConstant_22 ?_
    refine lv_bipush (v := Int32.ofInt (24)) hx hb dX8_addConstant_25 rfl ?_
    refine lv_iload_n hx hb dX8_addConstant_27 rfl (lv_at hl 1 rfl) ?_
    refine o_imul hx hb dX8_addConstant_28 ?_
    refine lv_aload_n hx hb dX8_addConstant_29 rfl (lv_at hl 0 rfl) ?_
    refine m_get (k := 36) (C := RX8) (T := TX8) (N := 18) (ref := "LiftFactorsModel") (v := .ref (adr 41)) hx hb hi hts inX8_u hown hw (by decide) rfl 7 (by decide) q_0 rfl rfl dX8_addConstant_30 ?_
    refine lv_bipush (v := Int32.ofInt (24)) hx hb dX8_addConstant_33 rfl ?_
    refine lv_iload_n hx hb dX8_addConstant_35 rfl (lv_at hl 1 rfl) ?_
    refine o_imul hx hb dX8_addConstant_36 ?_
    replace h := bnd h
    obtain ⟨v2, e2, h⟩ := h
    refine o_lald hx hb hi hw e2 dX8_addConstant_37 ?_
    refine lv_lload_n hx hb dX8_addConstant_38 rfl (lv_at hl 2 rfl) ?_
    refine o_ladd hx hb dX8_addConstant_39 ?_
    refine lv_aload_n hx hb dX8_addConstant_40 rfl (lv_at hl 0 rfl) ?_
    refine m_get (k := 36) (C := RX8) (T := TX8) (N := 18) (ref := "LiftFactorsModel") (v := .long (Int64.ofInt (M.1 36 9))) hx hb hi hts inX8_u hown hw (by decide) rfl 9 (by decide) q_29 rfl rfl dX8_addConstant_41 ?_
    replace h := bnd h
    obtain ⟨v3, e3, h⟩ := h
    refine o_lrem hx hb e3 dX8_addConstant_44 ?_
    replace h := bnd h
    obtain ⟨v4, e4, h⟩ := h
    refine o_last hx hb hi hw e4 dX8_addConstant_45 (fun H locs hw => ?_)
    refine lv_aload_n hx hb dX8_addConstant_46 rfl (lv_at hl 0 rfl) ?_
    refine lv_iload_n hx hb dX8_addConstant_47 rfl (lv_at hl 1 rfl) ?_
    refine lv_aload_n hx hb dX8_addConstant_48 rfl (lv_at hl 0 rfl) ?_
    refine m_get (k := 36) (C := RX8) (T := TX8) (N := 18) (ref := "LiftFactorsModel") (v := .ref (adr 42)) hx hb hi hts inX8_u hown hw (by decide) rfl 8 (by decide) q_1 rfl rfl dX8_addConstant_49 ?_
    refine lv_iload_n hx hb dX8_addConstant_52 rfl (lv_at hl 1 rfl) ?_
    replace h := bnd h
    obtain ⟨v5, e5, h⟩ := h
    refine o_iald hx hb hi hw e5 dX8_addConstant_53 ?_
    replace h := bnd h
    obtain ⟨v6, e6, h⟩ := h
    refine m_callVv (k := 36) (As := [.int (Int32.ofInt a0), .int (Int32.ofInt v5)]) (rest := []) cx.fix hi hw (cc_X8_trim (l := l) (G := G) (sz := H.size) hi e6) (by decide) rfl rfl (w_cV 2 hts q_11 q_12 q_13 q_14 q_15 rfl rfl (by decide) (by decide)) hl.1 rfl (lv_room (Nat.le_of_ble_eq_true rfl)) dX8_addConstant_54 (fun H locs hw => ?_)
    cases h
    exact kr _ _ _ _ dX8_addConstant_57 hw
  · replace h := ite_f hc h
    refine lv_aload_n hx hb dX8_addConstant_9 rfl (lv_at hl 0 rfl) ?_
    refine lv_iload_n hx hb dX8_addConstant_10 rfl (lv_at hl 1 rfl) ?_
    refine lv_lload_n hx hb dX8_addConstant_11 rfl (lv_at hl 2 rfl) ?_
    refine lv_aload_n hx hb dX8_addConstant_12 rfl (lv_at hl 0 rfl) ?_
    refine m_get (k := 36) (C := RX8) (T := TX8) (N := 18) (ref := "LiftFactorsModel") (v := .long (Int64.ofInt (M.1 36 9))) hx hb hi hts inX8_u hown hw (by decide) rfl 9 (by decide) q_29 rfl rfl dX8_addConstant_13 ?_
    replace h := bnd h
    obtain ⟨v7, e7, h⟩ := h
    refine o_lrem hx hb e7 dX8_addConstant_16 ?_
    replace h := bnd h
    obtain ⟨v8, e8, h⟩ := h
    refine m_callVv (k := 36) (As := [.int (Int32.ofInt a0), .long (Int64.ofInt v7)]) (rest := []) cx.fix hi hw (cc_X8_constant (l := l) (G := G) (sz := H.size) hi e8) (by decide) rfl rfl (w_cV 2 hts q_47 q_48 q_49 q_50 q_51 rfl rfl (by decide) (by decide)) hl.1 rfl (lv_room (Nat.le_of_ble_eq_true rfl)) dX8_addConstant_17 (fun H locs hw => ?_)
    cases h
    exact kr _ _ _ _ dX8_addConstant_20 hw
theorem cc_X8_addConstant {l : Launch} {G : gG} {adr : Nat → Nat} {sz : Nat} (hi : adi adr) {n : Nat} {a0 : Int} {a1 : Int} {M M' : MI} (h : f_X8_addConstant n a0 a1 M = some M') : mV l yX8_addConstant cX8_addConstant 4 none { frames := 1, cells := 0, slots := 0, locals := 23 } G adr [.ref (adr 36), .int (Int32.ofInt a0), .long (Int64.ofInt a1)] (tm M) sz (tm M') := by
  refine wEnter (by decide) (Nat.le_of_ble_eq_true rfl) ?_
  intro p e s m below meth c ls cx hinit hl hsz hw
  exact b_X8_addConstant cx hi h (fun pc ls H locs hd hw => w_vret (post := fun (u : Mem) => u = tm M') (lf := fun u => (LL adr, wf G adr u)) cx.1 cx.2.1 cx.2.2.1 cx.2.2.2.2.2.2 (tm M') hw rfl hd) hl hw
def l_X8_lessLetter_9 (a0 : Int) : MI × Int → Option ((MI) ⊕ (MI × Int)) := fun (M2, v3) =>
  Option.bind (gI v3 (1)) fun _ =>
  if (1) < v3 then
    some (.inl M2)
  else
    Option.bind (osJ M2 41 (((24) * a0) + v3) (0)) fun v4 =>
    some (.inr (v4, v3 + 1))
def f_X8_lessLetter (n : Nat) (a0 : Int) (M : MI) : Option MI :=
  Option.bind (odI M 42 a0) fun v1 =>
  Option.bind (lpF (l_X8_lessLetter_9 a0) n (M, v1 + (1))) fun M6 =>
  Option.bind (odI M6 42 a0) fun v7 =>
  Option.bind (
    Option.bind (gI v7 (1)) fun _ =>
    if v7 ≤ (1) then
      some (1)
    else
      Option.bind (odI M6 42 a0) fun v8 =>
      some v8) fun v9 =>
  Option.bind (odJ M6 41 (((24) * a0) + (1))) fun v10 =>
  Option.bind (
    Option.bind (gJ v10 (0)) fun _ =>
    if v10 = (0) then
      some ((M6.1 36 9) - (1))
    else
      Option.bind (odJ M6 41 (((24) * a0) + (1))) fun v11 =>
      some (v11 - (1))) fun v12 =>
  Option.bind (osJ M6 41 (((24) * a0) + (1)) v12) fun v13 =>
  Option.bind (f_X8_trim n a0 v9 v13) fun v14 =>
  some v14
set_option maxRecDepth 100000 in
set_option maxHeartbeats 8000000 in
theorem b_X8_lessLetter {p : Program} {l : Launch} {e : Env} {s : State} {m : MethodId} {args : Array Value} {below : List Frame} {meth : Method} {c : Code} {Q : State → Prop} {G : gG} {A : Nat → Prop} {adr : Nat → Nat} (cx : cX p s m args meth c cX8_lessLetter none 3 yX8_lessLetter.cls) (hi : adi adr) {n : Nat} {a0 : Int} {M M' : MI} 
    (h : f_X8_lessLetter n a0 M = some M')
    (kr : ∀ (pc : Nat) (ls : Array Slot) (H : Heap) (locs : List Loc), decode cX8_lessLetter pc = .ok (.return_, 1) → wH G A s.heap s (LL adr) (wf G adr (tm M')) H locs → W p l e { frames := 1, cells := 0, slots := 0, locals := 23 } s m args below meth c H locs 0 0 Q (F0 m pc ls []))
    {ls : Array Slot} {H : Heap} {locs : List Loc} (hl : lv_has ls 3 [(0, .ref (adr 36)), (1, .int (Int32.ofInt a0))]) (hw : wH G A s.heap s (LL adr) (wf G adr (tm M)) H locs) : W p l e { frames := 1, cells := 0, slots := 0, locals := 23 } s m args below meth c H locs 0 0 Q (F0 m 0 ls []) := by
  obtain ⟨hx, hb, -, -, hown, hts, -⟩ := id cx
  have hown : s.vm.findClass RX8 = some m.cls := hown
  unfold f_X8_lessLetter at h
  refine lv_aload_n hx hb dX8_lessLetter_0 rfl (lv_at hl 0 rfl) ?_
  refine m_get (k := 36) (C := RX8) (T := TX8) (N := 18) (ref := "LiftFactorsModel") (v := .ref (adr 42)) hx hb hi hts inX8_u hown hw (by decide) rfl 8 (by decide) q_1 rfl rfl dX8_lessLetter_1 ?_
  refine lv_iload_n hx hb dX8_lessLetter_4 rfl (lv_at hl 1 rfl) ?_
  replace h := bnd h
  obtain ⟨v1, e1, h⟩ := h
  refine o_iald hx hb hi hw e1 dX8_lessLetter_5 ?_
  refine lv_iconst (v := Int32.ofInt (1)) hx hb dX8_lessLetter_6 rfl ?_
  refine o_iadd hx hb dX8_lessLetter_7 ?_
  refine lv_istore_n (lv' := [(2, .int (Int32.ofInt (v1 + (1)))), (0, .ref (adr 36)), (1, .int (Int32.ofInt a0))]) hx hb dX8_lessLetter_8 rfl hl (by decide) rfl (fun ls hl => ?_)
  replace h := bnd h
  obtain ⟨M6, j5, h⟩ := h
  refine lp_W (Wst := fun (st : MI × Int) => ∀ (ls : Array Slot) (H : Heap) (locs : List Loc), lv_has ls 3 [(0, .ref (adr 36)), (1, .int (Int32.ofInt a0)), (2, .int (Int32.ofInt st.2))] → wH G A s.heap s (LL adr) (wf G adr (tm st.1)) H locs → W p l e { frames := 1, cells := 0, slots := 0, locals := 23 } s m args below meth c H locs 0 0 Q (F0 m 9 ls [])) (fin := fun (r : MI) => ∀ (ls : Array Slot) (H : Heap) (locs : List Loc), lv_has ls 3 [(0, .ref (adr 36)), (1, .int (Int32.ofInt a0))] → wH G A s.heap s (LL adr) (wf G adr (tm r)) H locs → W p l e { frames := 1, cells := 0, slots := 0, locals := 23 } s m args below meth c H locs 0 0 Q (F0 m 32 ls [])) ?_ n _ _ j5 ?_ _ _ _ (lv_sub hl [1, 2, 0] rfl) hw
  · clear h j5 hw hl
    intro ⟨M2, v3⟩ x h k1 k2 ls H locs hl hw
    (try dsimp only at k1 k2 hl hw ⊢)
    unfold l_X8_lessLetter_9 at h
    (try dsimp only at h)
    refine lv_iload_n hx hb dX8_lessLetter_9 rfl (lv_at hl 2 rfl) ?_
    refine lv_iconst (v := Int32.ofInt (1)) hx hb dX8_lessLetter_10 rfl ?_
    replace h := bnd h
    obtain ⟨_, hg, h⟩ := h
    refine o_icmp_gt (tgt := 32) hx hb hg dX8_lessLetter_11 (by decide) (fun hc => ?_) (fun hc => ?_)
    · replace h := ite_t hc h
      cases h
      exact k1 _ rfl _ _ _ (lv_sub hl [0, 1] rfl) hw
    · replace h := ite_f hc h
      refine lv_aload_n hx hb dX8_lessLetter_14 rfl (lv_at hl 0 rfl) ?_
      refine m_get (k := 36) (C := RX8) (T := TX8) (N := 18) (ref := "LiftFactorsModel") (v := .ref (adr 41)) hx hb hi hts inX8_u hown hw (by decide) rfl 7 (by decide) q_0 rfl rfl dX8_lessLetter_15 ?_
      refine lv_bipush (v := Int32.ofInt (24)) hx hb dX8_lessLetter_18 rfl ?_
      refine lv_iload_n hx hb dX8_lessLetter_20 rfl (lv_at hl 1 rfl) ?_
      refine o_imul hx hb dX8_lessLetter_21 ?_
      refine lv_iload_n hx hb dX8_lessLetter_22 rfl (lv_at hl 2 rfl) ?_
      refine o_iadd hx hb dX8_lessLetter_23 ?_
      refine lv_lconst (v := Int64.ofInt (0)) hx hb dX8_lessLetter_24 (by decide) ?_
      replace h := bnd h
      obtain ⟨v4, e4, h⟩ := h
      refine o_last hx hb hi hw e4 dX8_lessLetter_25 (fun H locs hw => ?_)
      refine lv_iinc (v := Int32.ofInt (v3 + 1)) (lv' := [(2, .int (Int32.ofInt (v3 + 1))), (0, .ref (adr 36)), (1, .int (Int32.ofInt a0))]) hx hb dX8_lessLetter_26 hl (k := 2) rfl (inc_o _ _) (by decide) rfl (fun ls hl => ?_)
      refine lv_goto (tgt := 9) hx hb dX8_lessLetter_29 (by decide) ?_
      cases h
      exact k2 _ rfl _ _ _ (lv_sub hl [1, 2, 0] rfl) hw
  · clear hw hl
    intro ls H locs hl hw
    (try dsimp only at hl hw ⊢)
    refine lv_aload_n hx hb dX8_lessLetter_32 rfl (lv_at hl 0 rfl) ?_
    refine m_get (k := 36) (C := RX8) (T := TX8) (N := 18) (ref := "LiftFactorsModel") (v := .ref (adr 42)) hx hb hi hts inX8_u hown hw (by decide) rfl 8 (by decide) q_1 rfl rfl dX8_lessLetter_33 ?_
    refine lv_iload_n hx hb dX8_lessLetter_36 rfl (lv_at hl 1 rfl) ?_
    replace h := bnd h
    obtain ⟨v7, e7, h⟩ := h
    refine o_iald hx hb hi hw e7 dX8_lessLetter_37 ?_
    refine lv_iconst (v := Int32.ofInt (1)) hx hb dX8_lessLetter_38 rfl ?_
    replace h := bnd h
    obtain ⟨v9, j16, h⟩ := h
    have kj : ∀ (ls : Array Slot) (H : Heap) (locs : List Loc), lv_has ls 3 [(0, .ref (adr 36)), (1, .int (Int32.ofInt a0))] → wH G A s.heap s (LL adr) (wf G adr (tm M6)) H locs → W p l e { frames := 1, cells := 0, slots := 0, locals := 23 } s m args below meth c H locs 0 0 Q (F0 m 52 ls [.int (Int32.ofInt v9)]) := by
      intro ls H locs hl hw
      refine lv_istore_n (lv' := [(2, .int (Int32.ofInt v9)), (0, .ref (adr 36)), (1, .int (Int32.ofInt a0))]) hx hb dX8_lessLetter_52 rfl hl (by decide) rfl (fun ls hl => ?_)
      refine lv_aload_n hx hb dX8_lessLetter_53 rfl (lv_at hl 1 rfl) ?_
      refine m_get (k := 36) (C := RX8) (T := TX8) (N := 18) (ref := "LiftFactorsModel") (v := .ref (adr 41)) hx hb hi hts inX8_u hown hw (by decide) rfl 7 (by decide) q_0 rfl rfl dX8_lessLetter_54 ?_
      refine lv_bipush (v := Int32.ofInt (24)) hx hb dX8_lessLetter_57 rfl ?_
      refine lv_iload_n hx hb dX8_lessLetter_59 rfl (lv_at hl 2 rfl) ?_
      refine o_imul hx hb dX8_lessLetter_60 ?_
      refine lv_iconst (v := Int32.ofInt (1)) hx hb dX8_lessLetter_61 rfl ?_
      refine o_iadd hx hb dX8_lessLetter_62 ?_
      refine lv_aload_n hx hb dX8_lessLetter_63 rfl (lv_at hl 1 rfl) ?_
      refine m_get (k := 36) (C := RX8) (T := TX8) (N := 18) (ref := "LiftFactorsModel") (v := .ref (adr 41)) hx hb hi hts inX8_u hown hw (by decide) rfl 7 (by decide) q_0 rfl rfl dX8_lessLetter_64 ?_
      refine lv_bipush (v := Int32.ofInt (24)) hx hb dX8_lessLetter_67 rfl ?_
      refine lv_iload_n hx hb dX8_lessLetter_69 rfl (lv_at hl 2 rfl) ?_
      refine o_imul hx hb dX8_lessLetter_70 ?_
      refine lv_iconst (v := Int32.ofInt (1)) hx hb dX8_lessLetter_71 rfl ?_
      refine o_iadd hx hb dX8_lessLetter_72 ?_
      replace h := bnd h
      obtain ⟨v10, e10, h⟩ := h
      refine o_lald hx hb hi hw e10 dX8_lessLetter_73 ?_
      refine lv_lconst (v := Int64.ofInt (0)) hx hb dX8_lessLetter_74 (by decide) ?_
      replace h := bnd h
      obtain ⟨v12, j15, h⟩ := h
      have kj : ∀ (ls : Array Slot) (H : Heap) (locs : List Loc), lv_has ls 3 [(0, .ref (adr 36)), (1, .int (Int32.ofInt a0)), (2, .int (Int32.ofInt v9))] → wH G A s.heap s (LL adr) (wf G adr (tm M6)) H locs → W p l e { frames := 1, cells := 0, slots := 0, locals := 23 } s m args below meth c H locs 0 0 Q (F0 m 101 ls [.long (Int64.ofInt v12), .int (Int32.ofInt (((24) * a0) + (1))), .ref (adr 41)]) := by
        intro ls H locs hl hw
        replace h := bnd h
        obtain ⟨v13, e13, h⟩ := h
        refine o_last hx hb hi hw e13 dX8_lessLetter_101 (fun H locs hw => ?_)
        refine lv_aload_n hx hb dX8_lessLetter_102 rfl (lv_at hl 0 rfl) ?_
        refine lv_iload_n hx hb dX8_lessLetter_103 rfl (lv_at hl 1 rfl) ?_
        refine lv_iload_n hx hb dX8_lessLetter_104 rfl (lv_at hl 2 rfl) ?_
        replace h := bnd h
        obtain ⟨v14, e14, h⟩ := h
        refine m_callVv (k := 36) (As := [.int (Int32.ofInt a0), .int (Int32.ofInt v9)]) (rest := []) cx.fix hi hw (cc_X8_trim (l := l) (G := G) (sz := H.size) hi e14) (by decide) rfl rfl (w_cV 2 hts q_11 q_12 q_13 q_14 q_15 rfl rfl (by decide) (by decide)) hl.1 rfl (lv_room (Nat.le_of_ble_eq_true rfl)) dX8_lessLetter_105 (fun H locs hw => ?_)
        cases h
        exact kr _ _ _ _ dX8_lessLetter_108 hw
      clear h
      replace h := j15
      clear j15
      replace h := bnd h
      obtain ⟨_, hg, h⟩ := h
      refine o_lcmp_ne (tgt := 88) hx hb hg dX8_lessLetter_75 dX8_lessLetter_76 (by decide) (fun hc => ?_) (fun hc => ?_)
      · replace h := ite_f hc h
        refine lv_aload_n hx hb dX8_lessLetter_88 rfl (lv_at hl 1 rfl) ?_
        refine m_get (k := 36) (C := RX8) (T := TX8) (N := 18) (ref := "LiftFactorsModel") (v := .ref (adr 41)) hx hb hi hts inX8_u hown hw (by decide) rfl 7 (by decide) q_0 rfl rfl dX8_lessLetter_89 ?_
        refine lv_bipush (v := Int32.ofInt (24)) hx hb dX8_lessLetter_92 rfl ?_
        refine lv_iload_n hx hb dX8_lessLetter_94 rfl (lv_at hl 2 rfl) ?_
        refine o_imul hx hb dX8_lessLetter_95 ?_
        refine lv_iconst (v := Int32.ofInt (1)) hx hb dX8_lessLetter_96 rfl ?_
        refine o_iadd hx hb dX8_lessLetter_97 ?_
        replace h := bnd h
        obtain ⟨v11, e11, h⟩ := h
        refine o_lald hx hb hi hw e11 dX8_lessLetter_98 ?_
        refine lv_lconst (v := Int64.ofInt (1)) hx hb dX8_lessLetter_99 (by decide) ?_
        refine o_lsub hx hb dX8_lessLetter_100 ?_
        cases h
        exact kj _ _ _ (lv_sub hl [1, 2, 0] rfl) hw
      · replace h := ite_t hc h
        refine lv_aload_n hx hb dX8_lessLetter_79 rfl (lv_at hl 1 rfl) ?_
        refine m_get (k := 36) (C := RX8) (T := TX8) (N := 18) (ref := "LiftFactorsModel") (v := .long (Int64.ofInt (M6.1 36 9))) hx hb hi hts inX8_u hown hw (by decide) rfl 9 (by decide) q_29 rfl rfl dX8_lessLetter_80 ?_
        refine lv_lconst (v := Int64.ofInt (1)) hx hb dX8_lessLetter_83 (by decide) ?_
        refine o_lsub hx hb dX8_lessLetter_84 ?_
        refine lv_goto (tgt := 101) hx hb dX8_lessLetter_85 (by decide) ?_
        cases h
        exact kj _ _ _ (lv_sub hl [1, 2, 0] rfl) hw
    clear h
    replace h := j16
    clear j16
    replace h := bnd h
    obtain ⟨_, hg, h⟩ := h
    refine o_icmp_le (tgt := 51) hx hb hg dX8_lessLetter_39 (by decide) (fun hc => ?_) (fun hc => ?_)
    · replace h := ite_t hc h
      refine lv_iconst (v := Int32.ofInt (1)) hx hb dX8_lessLetter_51 rfl ?_
      cases h
      exact kj _ _ _ (lv_sub hl [0, 1] rfl) hw
    · replace h := ite_f hc h
      refine lv_aload_n hx hb dX8_lessLetter_42 rfl (lv_at hl 0 rfl) ?_
      refine m_get (k := 36) (C := RX8) (T := TX8) (N := 18) (ref := "LiftFactorsModel") (v := .ref (adr 42)) hx hb hi hts inX8_u hown hw (by decide) rfl 8 (by decide) q_1 rfl rfl dX8_lessLetter_43 ?_
      refine lv_iload_n hx hb dX8_lessLetter_46 rfl (lv_at hl 1 rfl) ?_
      replace h := bnd h
      obtain ⟨v8, e8, h⟩ := h
      refine o_iald hx hb hi hw e8 dX8_lessLetter_47 ?_
      refine lv_goto (tgt := 52) hx hb dX8_lessLetter_48 (by decide) ?_
      cases h
      exact kj _ _ _ (lv_sub hl [0, 1] rfl) hw
theorem cc_X8_lessLetter {l : Launch} {G : gG} {adr : Nat → Nat} {sz : Nat} (hi : adi adr) {n : Nat} {a0 : Int} {M M' : MI} (h : f_X8_lessLetter n a0 M = some M') : mV l yX8_lessLetter cX8_lessLetter 3 none { frames := 1, cells := 0, slots := 0, locals := 23 } G adr [.ref (adr 36), .int (Int32.ofInt a0)] (tm M) sz (tm M') := by
  refine wEnter (by decide) (Nat.le_of_ble_eq_true rfl) ?_
  intro p e s m below meth c ls cx hinit hl hsz hw
  exact b_X8_lessLetter cx hi h (fun pc ls H locs hd hw => w_vret (post := fun (u : Mem) => u = tm M') (lf := fun u => (LL adr, wf G adr u)) cx.1 cx.2.1 cx.2.2.1 cx.2.2.2.2.2.2 (tm M') hw rfl hd) hl hw
