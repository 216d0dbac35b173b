theorem q_29 : Cond.fieldLink RX8 75 "LiftFactorsModel" "modulus" "J" ∈ uU := uU_in (by decide +kernel) (by decide +kernel)
theorem q_30 : Cond.constantLong RX8 79 (1048575) ∈ uU := uU_in (by decide +kernel) (by decide +kernel)
def f_X8_product (a0 : Int) (a1 : Int) (M : MI) : Option Int :=
  Option.bind (orJ (a0 * (oshrJ a1 (20))) (M.1 36 9)) fun v1 =>
  Option.bind (orJ ((oshlJ v1 (20)) + (a0 * (oandJ a1 (1048575)))) (M.1 36 9)) fun v2 =>
  some v2
set_option maxRecDepth 100000 in
set_option maxHeartbeats 8000000 in
theorem b_X8_product {p : Program} {l : Launch} {e : Env} {s : State} {m : MethodId} {args : Array Value} {below : List Frame} {meth : Method} {c : Code} {Q : State → Prop} {G : gG} {A : Nat → Prop} {adr : Nat → Nat} (cx : cX p s m args meth c cX8_product (some .long) 7 yX8_product.cls) (hi : adi adr) {a0 : Int} {a1 : Int} {M : MI} {r : Int} 
    (h : f_X8_product a0 a1 M = some r)
    (kr : ∀ (pc : Nat) (ls : Array Slot) (H : Heap) (locs : List Loc), decode cX8_product pc = .ok (.lreturn, 1) → wH G A s.heap s (LL adr) (wf G adr (tm M)) H locs → W p l e { frames := 0, cells := 0, slots := 0, locals := 0 } s m args below meth c H locs 0 0 Q (F0 m pc ls [.long (Int64.ofInt r)]))
    {ls : Array Slot} {H : Heap} {locs : List Loc} (hl : lv_has ls 7 [(0, .ref (adr 36)), (1, .long (Int64.ofInt a0)), (3, .long (Int64.ofInt a1))]) (hw : wH G A s.heap s (LL adr) (wf G adr (tm M)) H locs) : W p l e { frames := 0, cells := 0, slots := 0, locals := 0 } s m args below meth c H locs 0 0 Q (F0 m 0 ls []) := by
  obtain ⟨hx, hb, -, -, hown, hts, -⟩ := id cx
  have hown : s.vm.findClass RX8 = some m.cls := hown
  unfold f_X8_product at h
  refine lv_lload_n hx hb dX8_product_0 rfl (lv_at hl 1 rfl) ?_
  refine lv_lload_n hx hb dX8_product_1 rfl (lv_at hl 2 rfl) ?_
  refine lv_bipush (v := Int32.ofInt (20)) hx hb dX8_product_2 rfl ?_
  refine o_lshr hx hb dX8_product_4 ?_
  refine o_lmul hx hb dX8_product_5 ?_
  refine lv_aload_n hx hb dX8_product_6 rfl (lv_at hl 0 rfl) ?_
  refine m_get (k := 36) (C := RX8) (T := TX8) (N := 18) (ref := "LiftFactorsModel") (v := .long (Int64.ofInt (M.1 36 9))) hx hb hi hts inX8_u hown hw (by decide) rfl 9 (by decide) q_29 rfl rfl dX8_product_7 ?_
  replace h := bnd h
  obtain ⟨v1, e1, h⟩ := h
  refine o_lrem hx hb e1 dX8_product_10 ?_
  refine lv_lstore (lv' := [(5, .long (Int64.ofInt v1)), (0, .ref (adr 36)), (1, .long (Int64.ofInt a0)), (3, .long (Int64.ofInt a1))]) hx hb dX8_product_11 hl (by decide) rfl (fun ls hl => ?_)
  refine lv_lload hx hb dX8_product_13 (lv_at hl 0 rfl) ?_
  refine lv_bipush (v := Int32.ofInt (20)) hx hb dX8_product_15 rfl ?_
  refine o_lshl hx hb dX8_product_17 ?_
  refine lv_lload_n hx hb dX8_product_18 rfl (lv_at hl 2 rfl) ?_
  refine lv_lload_n hx hb dX8_product_19 rfl (lv_at hl 3 rfl) ?_
  refine lv_ldc2 (v := Int64.ofInt (1048575)) hx hb hown (hts _ q_30) dX8_product_20 ?_
  refine o_land hx hb dX8_product_23 ?_
  refine o_lmul hx hb dX8_product_24 ?_
  refine o_ladd hx hb dX8_product_25 ?_
  refine lv_aload_n hx hb dX8_product_26 rfl (lv_at hl 1 rfl) ?_
  refine m_get (k := 36) (C := RX8) (T := TX8) (N := 18) (ref := "LiftFactorsModel") (v := .long (Int64.ofInt (M.1 36 9))) hx hb hi hts inX8_u hown hw (by decide) rfl 9 (by decide) q_29 rfl rfl dX8_product_27 ?_
  replace h := bnd h
  obtain ⟨v2, e2, h⟩ := h
  refine o_lrem hx hb e2 dX8_product_30 ?_
  cases h
  exact kr _ _ _ _ dX8_product_31 hw
theorem cc_X8_product {l : Launch} {G : gG} {adr : Nat → Nat} {sz : Nat} (hi : adi adr) {a0 : Int} {a1 : Int} {M : MI} {r : Int} (h : f_X8_product a0 a1 M = some r) : mL l yX8_product cX8_product 7 (some .long) { frames := 0, cells := 0, slots := 0, locals := 0 } G adr [.ref (adr 36), .long (Int64.ofInt a0), .long (Int64.ofInt a1)] (tm M) sz (Int64.ofInt r) (tm M) := by
  refine wEnter (by decide) (Nat.le_of_ble_eq_true rfl) ?_
  intro p e s m below meth c ls cx hinit hl hsz hw
  exact b_X8_product cx hi h (fun pc ls H locs hd hw => w_lret (post := fun (r9 : Int64) (u : Mem) => r9 = Int64.ofInt r ∧ u = tm M) (lf := fun u => (LL adr, wf G adr u)) cx.1 cx.2.1 cx.2.2.1 cx.2.2.2.2.2.2 (tm M) hw ⟨rfl, rfl⟩ hd) hl hw
theorem q_31 : Cond.methodLink RX8 81 yX8_product ∈ uU := uU_in (by decide +kernel) (by decide +kernel)
theorem q_32 : Cond.instanceMethod yX8_product ∈ uU := uU_in (by decide +kernel) (by decide +kernel)
theorem q_33 : Cond.selects yX8_product.cls yX8_product yX8_product ∈ uU := uU_in (by decide +kernel) (by decide +kernel)
theorem q_34 : Cond.initialized yX8_product.cls ∈ uU := uU_in (by decide +kernel) (by decide +kernel)
theorem q_35 : Cond.code yX8_product cX8_product 7 (some .long) ∈ uU := uU_in (by decide +kernel) (by decide +kernel)
def l_X8_power_14 (M : MI) : Int × Int × Int → Option ((Int) ⊕ (Int × Int × Int)) := fun (v2, v3, v4) =>
  Option.bind (gJ v4 (0)) fun _ =>
  if v4 ≤ (0) then
    some (.inl v2)
  else
    Option.bind (
      Option.bind (gJ (oandJ v4 (1)) (1)) fun _ =>
      if (oandJ v4 (1)) = (1) then
        Option.bind (f_X8_product v2 v3 M) fun v5 =>
        some v5
      else
        some v2) fun v6 =>
    Option.bind (f_X8_product v3 v3 M) fun v7 =>
    some (.inr (v6, v7, oshrJ v4 (1)))
def f_X8_power (n : Nat) (a0 : Int) (a1 : Int) (M : MI) : Option Int :=
  Option.bind (orJ (1) (M.1 36 9)) fun v1 =>
  Option.bind (lpF (l_X8_power_14 M) n (v1, a0, a1)) fun v10 =>
  some v10
set_option maxRecDepth 100000 in
set_option maxHeartbeats 8000000 in
theorem b_X8_power {p : Program} {l : Launch} {e : Env} {s : State} {m : MethodId} {args : Array Value} {below : List Frame} {meth : Method} {c : Code} {Q : State → Prop} {G : gG} {A : Nat → Prop} {adr : Nat → Nat} (cx : cX p s m args meth c cX8_power (some .long) 11 yX8_power.cls) (hi : adi adr) {n : Nat} {a0 : Int} {a1 : Int} {M : MI} {r : Int} 
    (h : f_X8_power n a0 a1 M = some r)
    (kr : ∀ (pc : Nat) (ls : Array Slot) (H : Heap) (locs : List Loc), decode cX8_power pc = .ok (.lreturn, 1) → wH G A s.heap s (LL adr) (wf G adr (tm M)) H locs → W p l e { frames := 1, cells := 0, slots := 0, locals := 26 } s m args below meth c H locs 0 0 Q (F0 m pc ls [.long (Int64.ofInt r)]))
    {ls : Array Slot} {H : Heap} {locs : List Loc} (hl : lv_has ls 11 [(0, .ref (adr 36)), (1, .long (Int64.ofInt a0)), (3, .long (Int64.ofInt a1))]) (hw : wH G A s.heap s (LL adr) (wf G adr (tm M)) H locs) : W p l e { frames := 1, cells := 0, slots := 0, locals := 26 } s m args below meth c H locs 0 0 Q (F0 m 0 ls []) := by
  obtain ⟨hx, hb, -, -, hown, hts, -⟩ := id cx
  have hown : s.vm.findClass RX8 = some m.cls := hown
  unfold f_X8_power at h
  refine lv_lconst (v := Int64.ofInt (1)) hx hb dX8_power_0 (by decide) ?_
  refine lv_aload_n hx hb dX8_power_1 rfl (lv_at hl 0 rfl) ?_
  refine m_get (k := 36) (C := RX8) (T := TX8) (N := 18) (ref := "LiftFactorsModel") (v := .long (Int64.ofInt (M.1 36 9))) hx hb hi hts inX8_u hown hw (by decide) rfl 9 (by decide) q_29 rfl rfl dX8_power_2 ?_
  replace h := bnd h
  obtain ⟨v1, e1, h⟩ := h
  refine o_lrem hx hb e1 dX8_power_5 ?_
  refine lv_lstore (lv' := [(5, .long (Int64.ofInt v1)), (0, .ref (adr 36)), (1, .long (Int64.ofInt a0)), (3, .long (Int64.ofInt a1))]) hx hb dX8_power_6 hl (by decide) rfl (fun ls hl => ?_)
  refine lv_lload_n hx hb dX8_power_8 rfl (lv_at hl 2 rfl) ?_
  refine lv_lstore (lv' := [(7, .long (Int64.ofInt a0)), (5, .long (Int64.ofInt v1)), (0, .ref (adr 36)), (1, .long (Int64.ofInt a0)), (3, .long (Int64.ofInt a1))]) hx hb dX8_power_9 hl (by decide) rfl (fun ls hl => ?_)
  refine lv_lload_n hx hb dX8_power_11 rfl (lv_at hl 4 rfl) ?_
  refine lv_lstore (lv' := [(9, .long (Int64.ofInt a1)), (7, .long (Int64.ofInt a0)), (5, .long (Int64.ofInt v1)), (0, .ref (adr 36)), (1, .long (Int64.ofInt a0)), (3, .long (Int64.ofInt a1))]) hx hb dX8_power_12 hl (by decide) rfl (fun ls hl => ?_)
  replace h := bnd h
  obtain ⟨v10, j9, h⟩ := h
  refine lp_W (Wst := fun (st : Int × Int × Int) => ∀ (ls : Array Slot) (H : Heap) (locs : List Loc), lv_has ls 11 [(0, .ref (adr 36)), (5, .long (Int64.ofInt st.1)), (7, .long (Int64.ofInt st.2.1)), (9, .long (Int64.ofInt st.2.2))] → wH G A s.heap s (LL adr) (wf G adr (tm M)) H locs → W p l e { frames := 1, cells := 0, slots := 0, locals := 26 } s m args below meth c H locs 0 0 Q (F0 m 14 ls [])) (fin := fun (r : Int) => ∀ (ls : Array Slot) (H : Heap) (locs : List Loc), lv_has ls 11 [(5, .long (Int64.ofInt r))] → wH G A s.heap s (LL adr) (wf G adr (tm M)) H locs → W p l e { frames := 1, cells := 0, slots := 0, locals := 26 } s m args below meth c H locs 0 0 Q (F0 m 59 ls [])) ?_ n _ _ j9 ?_ _ _ _ (lv_sub hl [3, 2, 1, 0] rfl) hw
  · clear h j9 hw hl
    intro ⟨v2, v3, v4⟩ x h k1 k2 ls H locs hl hw
    (try dsimp only at k1 k2 hl hw ⊢)
    unfold l_X8_power_14 at h
    (try dsimp only at h)
    refine lv_lload hx hb dX8_power_14 (lv_at hl 3 rfl) ?_
    refine lv_lconst (v := Int64.ofInt (0)) hx hb dX8_power_16 (by decide) ?_
    replace h := bnd h
    obtain ⟨_, hg, h⟩ := h
    refine o_lcmp_le (tgt := 59) hx hb hg dX8_power_17 dX8_power_18 (by decide) (fun hc => ?_) (fun hc => ?_)
    · replace h := ite_t hc h
      cases h
      exact k1 _ rfl _ _ _ (lv_sub hl [1] rfl) hw
    · replace h := ite_f hc h
      refine lv_lload hx hb dX8_power_21 (lv_at hl 3 rfl) ?_
      refine lv_lconst (v := Int64.ofInt (1)) hx hb dX8_power_23 (by decide) ?_
      refine o_land hx hb dX8_power_24 ?_
      refine lv_lconst (v := Int64.ofInt (1)) hx hb dX8_power_25 (by decide) ?_
      replace h := bnd h
      obtain ⟨v6, j8, h⟩ := h
      have kj : ∀ (ls : Array Slot) (H : Heap) (locs : List Loc), lv_has ls 11 [(0, .ref (adr 36)), (5, .long (Int64.ofInt v6)), (7, .long (Int64.ofInt v3)), (9, .long (Int64.ofInt v4))] → wH G A s.heap s (LL adr) (wf G adr (tm M)) H locs → W p l e { frames := 1, cells := 0, slots := 0, locals := 26 } s m args below meth c H locs 0 0 Q (F0 m 40 ls []) := by
        intro ls H locs hl hw
        refine lv_aload_n hx hb dX8_power_40 rfl (lv_at hl 0 rfl) ?_
        refine lv_lload hx hb dX8_power_41 (lv_at hl 2 rfl) ?_
        refine lv_lload hx hb dX8_power_43 (lv_at hl 2 rfl) ?_
        replace h := bnd h
        obtain ⟨v7, e7, h⟩ := h
        refine m_callVl (k := 36) (As := [.long (Int64.ofInt v3), .long (Int64.ofInt v3)]) (rest := []) cx.fix hi hw (cc_X8_product (l := l) (G := G) (sz := H.size) hi e7) (by decide) rfl rfl (w_cV 2 hts q_31 q_32 q_33 q_34 q_35 rfl rfl (by decide) (by decide)) hl.1 rfl (lv_room (Nat.le_of_ble_eq_true rfl)) dX8_power_45 (fun H locs hw => ?_)
        refine lv_lstore (lv' := [(7, .long (Int64.ofInt v7)), (0, .ref (adr 36)), (5, .long (Int64.ofInt v6)), (9, .long (Int64.ofInt v4))]) hx hb dX8_power_48 hl (by decide) rfl (fun ls hl => ?_)
        refine lv_lload hx hb dX8_power_50 (lv_at hl 3 rfl) ?_
        refine lv_iconst (v := Int32.ofInt (1)) hx hb dX8_power_52 rfl ?_
        refine o_lshr hx hb dX8_power_53 ?_
        refine lv_lstore (lv' := [(9, .long (Int64.ofInt (oshrJ v4 (1)))), (7, .long (Int64.ofInt v7)), (0, .ref (adr 36)), (5, .long (Int64.ofInt v6))]) hx hb dX8_power_54 hl (by decide) rfl (fun ls hl => ?_)
        refine lv_goto (tgt := 14) hx hb dX8_power_56 (by decide) ?_
        cases h
        exact k2 _ rfl _ _ _ (lv_sub hl [2, 3, 1, 0] rfl) hw
      clear h
      replace h := j8
      clear j8
      replace h := bnd h
      obtain ⟨_, hg, h⟩ := h
      refine o_lcmp_ne (tgt := 40) hx hb hg dX8_power_26 dX8_power_27 (by decide) (fun hc => ?_) (fun hc => ?_)
      · replace h := ite_f hc h
        cases h
        exact kj _ _ _ (lv_sub hl [0, 1, 2, 3] rfl) hw
      · replace h := ite_t hc h
        refine lv_aload_n hx hb dX8_power_30 rfl (lv_at hl 0 rfl) ?_
        refine lv_lload hx hb dX8_power_31 (lv_at hl 1 rfl) ?_
        refine lv_lload hx hb dX8_power_33 (lv_at hl 2 rfl) ?_
        replace h := bnd h
        obtain ⟨v5, e5, h⟩ := h
        refine m_callVl (k := 36) (As := [.long (Int64.ofInt v2), .long (Int64.ofInt v3)]) (rest := []) cx.fix hi hw (cc_X8_product (l := l) (G := G) (sz := H.size) hi e5) (by decide) rfl rfl (w_cV 2 hts q_31 q_32 q_33 q_34 q_35 rfl rfl (by decide) (by decide)) hl.1 rfl (lv_room (Nat.le_of_ble_eq_true rfl)) dX8_power_35 (fun H locs hw => ?_)
        refine lv_lstore (lv' := [(5, .long (Int64.ofInt v5)), (0, .ref (adr 36)), (7, .long (Int64.ofInt v3)), (9, .long (Int64.ofInt v4))]) hx hb dX8_power_38 hl (by decide) rfl (fun ls hl => ?_)
        cases h
        exact kj _ _ _ (lv_sub hl [1, 0, 2, 3] rfl) hw
  · clear hw hl
    intro ls H locs hl hw
    (try dsimp only at hl hw ⊢)
    refine lv_lload hx hb dX8_power_59 (lv_at hl 0 rfl) ?_
    cases h
    exact kr _ _ _ _ dX8_power_61 hw
theorem cc_X8_power {l : Launch} {G : gG} {adr : Nat → Nat} {sz : Nat} (hi : adi adr) {n : Nat} {a0 : Int} {a1 : Int} {M : MI} {r : Int} (h : f_X8_power n a0 a1 M = some r) : mL l yX8_power cX8_power 11 (some .long) { frames := 1, cells := 0, slots := 0, locals := 26 } G adr [.ref (adr 36), .long (Int64.ofInt a0), .long (Int64.ofInt a1)] (tm M) sz (Int64.ofInt r) (tm M) := by
  refine wEnter (by decide) (Nat.le_of_ble_eq_true rfl) ?_
  intro p e s m below meth c ls cx hinit hl hsz hw
  exact b_X8_power cx hi h (fun pc ls H locs hd hw => w_lret (post := fun (r9 : Int64) (u : Mem) => r9 = Int64.ofInt r ∧ u = tm M) (lf := fun u => (LL adr, wf G adr u)) cx.1 cx.2.1 cx.2.2.1 cx.2.2.2.2.2.2 (tm M) hw ⟨rfl, rfl⟩ hd) hl hw
def l_X8_reduce_9 (a0 : Int) (v1 : Int) : MI × Int → Option ((MI) ⊕ (MI × Int)) := fun (M2, v3) =>
  Option.bind (gI v3 v1) fun _ =>
  if v1 < v3 then
    some (.inl M2)
  else
    Option.bind (odJ M2 41 (((24) * a0) + v3)) fun v4 =>
    Option.bind (orJ v4 (M2.1 36 9)) fun v5 =>
    Option.bind (
      Option.bind (gJ v5 (0)) fun _ =>
      if (0) ≤ v5 then
        some v5
      else
        some (v5 + (M2.1 36 9))) fun v6 =>
    Option.bind (osJ M2 41 (((24) * a0) + v3) v6) fun v7 =>
    some (.inr (v7, v3 + 1))
def f_X8_reduce (n : Nat) (a0 : Int) (M : MI) : Option MI :=
  Option.bind (odI M 42 a0) fun v1 =>
  Option.bind (lpF (l_X8_reduce_9 a0 v1) n (M, (0))) fun M10 =>
  Option.bind (f_X8_trim n a0 v1 M10) fun v11 =>
  some v11
set_option maxRecDepth 100000 in
set_option maxHeartbeats 8000000 in
theorem b_X8_reduce {p : Program} {l : Launch} {e : Env} {s : State} {m : MethodId} {args : Array Value} {below : List Frame} {meth : Method} {c : Code} {Q : State → Prop} {G : gG} {A : Nat → Prop} {adr : Nat → Nat} (cx : cX p s m args meth c cX8_reduce none 6 yX8_reduce.cls) (hi : adi adr) {n : Nat} {a0 : Int} {M M' : MI} 
    (h : f_X8_reduce n a0 M = some M')
    (kr : ∀ (pc : Nat) (ls : Array Slot) (H : Heap) (locs : List Loc), decode cX8_reduce pc = .ok (.return_, 1) → wH G A s.heap s (LL adr) (wf G adr (tm M')) H locs → W p l e { frames := 1, cells := 0, slots := 0, locals := 23 } s m args below meth c H locs 0 0 Q (F0 m pc ls []))
    {ls : Array Slot} {H : Heap} {locs : List Loc} (hl : lv_has ls 6 [(0, .ref (adr 36)), (1, .int (Int32.ofInt a0))]) (hw : wH G A s.heap s (LL adr) (wf G adr (tm M)) H locs) : W p l e { frames := 1, cells := 0, slots := 0, locals := 23 } s m args below meth c H locs 0 0 Q (F0 m 0 ls []) := by
  obtain ⟨hx, hb, -, -, hown, hts, -⟩ := id cx
  have hown : s.vm.findClass RX8 = some m.cls := hown
  unfold f_X8_reduce at h
  refine lv_aload_n hx hb dX8_reduce_0 rfl (lv_at hl 0 rfl) ?_
  refine m_get (k := 36) (C := RX8) (T := TX8) (N := 18) (ref := "LiftFactorsModel") (v := .ref (adr 42)) hx hb hi hts inX8_u hown hw (by decide) rfl 8 (by decide) q_1 rfl rfl dX8_reduce_1 ?_
  refine lv_iload_n hx hb dX8_reduce_4 rfl (lv_at hl 1 rfl) ?_
  replace h := bnd h
  obtain ⟨v1, e1, h⟩ := h
  refine o_iald hx hb hi hw e1 dX8_reduce_5 ?_
  refine lv_istore_n (lv' := [(2, .int (Int32.ofInt v1)), (0, .ref (adr 36)), (1, .int (Int32.ofInt a0))]) hx hb dX8_reduce_6 rfl hl (by decide) rfl (fun ls hl => ?_)
  refine lv_iconst (v := Int32.ofInt (0)) hx hb dX8_reduce_7 rfl ?_
  refine lv_istore_n (lv' := [(3, .int (Int32.ofInt (0))), (2, .int (Int32.ofInt v1)), (0, .ref (adr 36)), (1, .int (Int32.ofInt a0))]) hx hb dX8_reduce_8 rfl hl (by decide) rfl (fun ls hl => ?_)
  replace h := bnd h
  obtain ⟨M10, j9, h⟩ := h
  refine lp_W (Wst := fun (st : MI × Int) => ∀ (ls : Array Slot) (H : Heap) (locs : List Loc), lv_has ls 6 [(0, .ref (adr 36)), (1, .int (Int32.ofInt a0)), (2, .int (Int32.ofInt v1)), (3, .int (Int32.ofInt st.2))] → wH G A s.heap s (LL adr) (wf G adr (tm st.1)) H locs → W p l e { frames := 1, cells := 0, slots := 0, locals := 23 } s m args below meth c H locs 0 0 Q (F0 m 9 ls [])) (fin := fun (r : MI) => ∀ (ls : Array Slot) (H : Heap) (locs : List Loc), lv_has ls 6 [(0, .ref (adr 36)), (1, .int (Int32.ofInt a0)), (2, .int (Int32.ofInt v1))] → wH G A s.heap s (LL adr) (wf G adr (tm r)) H locs → W p l e { frames := 1, cells := 0, slots := 0, locals := 23 } s m args below meth c H locs 0 0 Q (F0 m 68 ls [])) ?_ n _ _ j9 ?_ _ _ _ (lv_sub hl [2, 3, 1, 0] rfl) hw
  · clear h j9 hw hl
    intro ⟨M2, v3⟩ x h k1 k2 ls H locs hl hw
    (try dsimp only at k1 k2 hl hw ⊢)
    unfold l_X8_reduce_9 at h
    (try dsimp only at h)
    refine lv_iload_n hx hb dX8_reduce_9 rfl (lv_at hl 3 rfl) ?_
    refine lv_iload_n hx hb dX8_reduce_10 rfl (lv_at hl 2 rfl) ?_
    replace h := bnd h
    obtain ⟨_, hg, h⟩ := h
    refine o_icmp_gt (tgt := 68) hx hb hg dX8_reduce_11 (by decide) (fun hc => ?_) (fun hc => ?_)
    · replace h := ite_t hc h
      cases h
      exact k1 _ rfl _ _ _ (lv_sub hl [0, 1, 2] rfl) hw
    · replace h := ite_f hc h
      refine lv_aload_n hx hb dX8_reduce_14 rfl (lv_at hl 0 rfl) ?_
      refine m_get (k := 36) (C := RX8) (T := TX8) (N := 18) (ref := "LiftFactorsModel") (v := .ref (adr 41)) hx hb hi hts inX8_u hown hw (by decide) rfl 7 (by decide) q_0 rfl rfl dX8_reduce_15 ?_
      refine lv_bipush (v := Int32.ofInt (24)) hx hb dX8_reduce_18 rfl ?_
      refine lv_iload_n hx hb dX8_reduce_20 rfl (lv_at hl 1 rfl) ?_
      refine o_imul hx hb dX8_reduce_21 ?_
      refine lv_iload_n hx hb dX8_reduce_22 rfl (lv_at hl 3 rfl) ?_
      refine o_iadd hx hb dX8_reduce_23 ?_
      replace h := bnd h
      obtain ⟨v4, e4, h⟩ := h
      refine o_lald hx hb hi hw e4 dX8_reduce_24 ?_
      refine lv_aload_n hx hb dX8_reduce_25 rfl (lv_at hl 0 rfl) ?_
      refine m_get (k := 36) (C := RX8) (T := TX8) (N := 18) (ref := "LiftFactorsModel") (v := .long (Int64.ofInt (M2.1 36 9))) hx hb hi hts inX8_u hown hw (by decide) rfl 9 (by decide) q_29 rfl rfl dX8_reduce_26 ?_
      replace h := bnd h
      obtain ⟨v5, e5, h⟩ := h
      refine o_lrem hx hb e5 dX8_reduce_29 ?_
      refine lv_lstore (lv' := [(4, .long (Int64.ofInt v5)), (0, .ref (adr 36)), (1, .int (Int32.ofInt a0)), (2, .int (Int32.ofInt v1)), (3, .int (Int32.ofInt v3))]) hx hb dX8_reduce_30 hl (by decide) rfl (fun ls hl => ?_)
      refine lv_aload_n hx hb dX8_reduce_32 rfl (lv_at hl 1 rfl) ?_
      refine m_get (k := 36) (C := RX8) (T := TX8) (N := 18) (ref := "LiftFactorsModel") (v := .ref (adr 41)) hx hb hi hts inX8_u hown hw (by decide) rfl 7 (by decide) q_0 rfl rfl dX8_reduce_33 ?_
      refine lv_bipush (v := Int32.ofInt (24)) hx hb dX8_reduce_36 rfl ?_
      refine lv_iload_n hx hb dX8_reduce_38 rfl (lv_at hl 2 rfl) ?_
      refine o_imul hx hb dX8_reduce_39 ?_
      refine lv_iload_n hx hb dX8_reduce_40 rfl (lv_at hl 4 rfl) ?_
      refine o_iadd hx hb dX8_reduce_41 ?_
      refine lv_lload hx hb dX8_reduce_42 (lv_at hl 0 rfl) ?_
      refine lv_lconst (v := Int64.ofInt (0)) hx hb dX8_reduce_44 (by decide) ?_
      replace h := bnd h
      obtain ⟨v6, j8, h⟩ := h
      have kj : ∀ (ls : Array Slot) (H : Heap) (locs : List Loc), lv_has ls 6 [(0, .ref (adr 36)), (1, .int (Int32.ofInt a0)), (2, .int (Int32.ofInt v1)), (3, .int (Int32.ofInt v3))] → wH G A s.heap s (LL adr) (wf G adr (tm M2)) H locs → W p l e { frames := 1, cells := 0, slots := 0, locals := 23 } s m args below meth c H locs 0 0 Q (F0 m 61 ls [.long (Int64.ofInt v6), .int (Int32.ofInt (((24) * a0) + v3)), .ref (adr 41)]) := by
        intro ls H locs hl hw
        replace h := bnd h
        obtain ⟨v7, e7, h⟩ := h
        refine o_last hx hb hi hw e7 dX8_reduce_61 (fun H locs hw => ?_)
        refine lv_iinc (v := Int32.ofInt (v3 + 1)) (lv' := [(3, .int (Int32.ofInt (v3 + 1))), (0, .ref (adr 36)), (1, .int (Int32.ofInt a0)), (2, .int (Int32.ofInt v1))]) hx hb dX8_reduce_62 hl (k := 3) rfl (inc_o _ _) (by decide) rfl (fun ls hl => ?_)
        refine lv_goto (tgt := 9) hx hb dX8_reduce_65 (by decide) ?_
        cases h
        exact k2 _ rfl _ _ _ (lv_sub hl [1, 2, 3, 0] rfl) hw
      clear h
      replace h := j8
      clear j8
      replace h := bnd h
      obtain ⟨_, hg, h⟩ := h
      refine o_lcmp_ge (tgt := 59) hx hb hg dX8_reduce_45 dX8_reduce_46 (by decide) (fun hc => ?_) (fun hc => ?_)
      · replace h := ite_t hc h
        refine lv_lload hx hb dX8_reduce_59 (lv_at hl 0 rfl) ?_
        cases h
        exact kj _ _ _ (lv_sub hl [1, 2, 3, 4] rfl) hw
      · replace h := ite_f hc h
        refine lv_lload hx hb dX8_reduce_49 (lv_at hl 0 rfl) ?_
        refine lv_aload_n hx hb dX8_reduce_51 rfl (lv_at hl 1 rfl) ?_
        refine m_get (k := 36) (C := RX8) (T := TX8) (N := 18) (ref := "LiftFactorsModel") (v := .long (Int64.ofInt (M2.1 36 9))) hx hb hi hts inX8_u hown hw (by decide) rfl 9 (by decide) q_29 rfl rfl dX8_reduce_52 ?_
        refine o_ladd hx hb dX8_reduce_55 ?_
        refine lv_goto (tgt := 61) hx hb dX8_reduce_56 (by decide) ?_
        cases h
        exact kj _ _ _ (lv_sub hl [1, 2, 3, 4] rfl) hw
  · clear hw hl
    intro ls H locs hl hw
    (try dsimp only at hl hw ⊢)
    refine lv_aload_n hx hb dX8_reduce_68 rfl (lv_at hl 0 rfl) ?_
    refine lv_iload_n hx hb dX8_reduce_69 rfl (lv_at hl 1 rfl) ?_
    refine lv_iload_n hx hb dX8_reduce_70 rfl (lv_at hl 2 rfl) ?_
    replace h := bnd h
    obtain ⟨v11, e11, h⟩ := h
    refine m_callVv (k := 36) (As := [.int (Int32.ofInt a0), .int (Int32.ofInt v1)]) (rest := []) cx.fix hi hw (cc_X8_trim (l := l) (G := G) (sz := H.size) hi e11) (by decide) rfl rfl (w_cV 2 hts q_11 q_12 q_13 q_14 q_15 rfl rfl (by decide) (by decide)) hl.1 rfl (lv_room (Nat.le_of_ble_eq_true rfl)) dX8_reduce_71 (fun H locs hw => ?_)
    cases h
    exact kr _ _ _ _ dX8_reduce_74 hw
theorem cc_X8_reduce {l : Launch} {G : gG} {adr : Nat → Nat} {sz : Nat} (hi : adi adr) {n : Nat} {a0 : Int} {M M' : MI} (h : f_X8_reduce n a0 M = some M') : mV l yX8_reduce cX8_reduce 6 none { frames := 1, cells := 0, slots := 0, locals := 23 } G adr [.ref (adr 36), .int (Int32.ofInt a0)] (tm M) sz (tm M') := by
  refine wEnter (by decide) (Nat.le_of_ble_eq_true rfl) ?_
  intro p e s m below meth c ls cx hinit hl hsz hw
  exact b_X8_reduce cx hi h (fun pc ls H locs hd hw => w_vret (post := fun (u : Mem) => u = tm M') (lf := fun u => (LL adr, wf G adr u)) cx.1 cx.2.1 cx.2.2.1 cx.2.2.2.2.2.2 (tm M') hw rfl hd) hl hw
theorem q_36 : Cond.constantLong RX8 84 (2) ∈ uU := uU_in (by decide +kernel) (by decide +kernel)
theorem q_37 : Cond.methodLink RX8 86 yX8_power ∈ uU := uU_in (by decide +kernel) (by decide +kernel)
theorem q_38 : Cond.instanceMethod yX8_power ∈ uU := uU_in (by decide +kernel) (by decide +kernel)
theorem q_39 : Cond.selects yX8_power.cls yX8_power yX8_power ∈ uU := uU_in (by decide +kernel) (by decide +kernel)
theorem q_40 : Cond.initialized yX8_power.cls ∈ uU := uU_in (by decide +kernel) (by decide +kernel)
theorem q_41 : Cond.code yX8_power cX8_power 11 (some .long) ∈ uU := uU_in (by decide +kernel) (by decide +kernel)
def l_X8_monic_42 (a0 : Int) (v4 : Int) : MI × Int → Option ((MI) ⊕ (MI × Int)) := fun (M5, v6) =>
  Option.bind (odI M5 42 a0) fun v7 =>
  Option.bind (gI v6 v7) fun _ =>
  if v7 < v6 then
    some (.inl M5)
  else
    Option.bind (
      Option.bind (gJ (M5.1 36 9) (2)) fun _ =>
      if (M5.1 36 9) = (2) then
        Option.bind (odJ M5 41 (((24) * a0) + v6)) fun v10 =>
        some v10
      else
        Option.bind (odJ M5 41 (((24) * a0) + v6)) fun v8 =>
        Option.bind (f_X8_product v8 v4 M5) fun v9 =>
        some v9) fun v11 =>
    Option.bind (osJ M5 41 (((24) * a0) + v6) v11) fun v12 =>
    some (.inr (v12, v6 + 1))
def f_X8_monic (n : Nat) (a0 : Int) (M : MI) : Option MI :=
  Option.bind (odI M 42 a0) fun v1 =>
  Option.bind (gI v1 0) fun _ =>
  if 0 ≤ v1 then
    Option.bind (odI M 42 a0) fun v2 =>
    Option.bind (odJ M 41 (((24) * a0) + v2)) fun v3 =>
    Option.bind (f_X8_power n v3 ((M.1 36 9) - (2)) M) fun v4 =>
    Option.bind (lpF (l_X8_monic_42 a0 v4) n (M, (0))) fun M15 =>
    some M15
  else
    some M
set_option maxRecDepth 100000 in
set_option maxHeartbeats 8000000 in
theorem b_X8_monic {p : Program} {l : Launch} {e : Env} {s : State} {m : MethodId} {args : Array Value} {below : List Frame} {meth : Method} {c : Code} {Q : State → Prop} {G : gG} {A : Nat → Prop} {adr : Nat → Nat} (cx : cX p s m args meth c cX8_monic none 5 yX8_monic.cls) (hi : adi adr) {n : Nat} {a0 : Int} {M M' : MI} 
    (h : f_X8_monic n a0 M = some M')
    (kr : ∀ (pc : Nat) (ls : Array Slot) (H : Heap) (locs : List Loc), decode cX8_monic pc = .ok (.return_, 1) → wH G A s.heap s (LL adr) (wf G adr (tm M')) H locs → W p l e { frames := 2, cells := 0, slots := 0, locals := 56 } s m args below meth c H locs 0 0 Q (F0 m pc ls []))
    {ls : Array Slot} {H : Heap} {locs : List Loc} (hl : lv_has ls 5 [(0, .ref (adr 36)), (1, .int (Int32.ofInt a0))]) (hw : wH G A s.heap s (LL adr) (wf G adr (tm M)) H locs) : W p l e { frames := 2, cells := 0, slots := 0, locals := 56 } s m args below meth c H locs 0 0 Q (F0 m 0 ls []) := by
  obtain ⟨hx, hb, -, -, hown, hts, -⟩ := id cx
  have hown : s.vm.findClass RX8 = some m.cls := hown
  unfold f_X8_monic at h
  refine lv_aload_n hx hb dX8_monic_0 rfl (lv_at hl 0 rfl) ?_
  refine m_get (k := 36) (C := RX8) (T := TX8) (N := 18) (ref := "LiftFactorsModel") (v := .ref (adr 42)) hx hb hi hts inX8_u hown hw (by decide) rfl 8 (by decide) q_1 rfl rfl dX8_monic_1 ?_
  refine lv_iload_n hx hb dX8_monic_4 rfl (lv_at hl 1 rfl) ?_
  replace h := bnd h
  obtain ⟨v1, e1, h⟩ := h
  refine o_iald hx hb hi hw e1 dX8_monic_5 ?_
  replace h := bnd h
  obtain ⟨_, hg, h⟩ := h
  refine o_if_ge (tgt := 10) hx hb hg dX8_monic_6 (by decide) (fun hc => ?_) (fun hc => ?_)
  · replace h := ite_t hc h
    refine lv_aload_n hx hb dX8_monic_10 rfl (lv_at hl 0 rfl) ?_
    refine lv_aload_n hx hb dX8_monic_11 rfl (lv_at hl 0 rfl) ?_
    refine m_get (k := 36) (C := RX8) (T := TX8) (N := 18) (ref := "LiftFactorsModel") (v := .ref (adr 41)) hx hb hi hts inX8_u hown hw (by decide) rfl 7 (by decide) q_0 rfl rfl dX8_monic_12 ?_
    refine lv_bipush (v := Int32.ofInt (24)) hx hb dX8_monic_15 rfl ?_
    refine lv_iload_n hx hb dX8_monic_17 rfl (lv_at hl 1 rfl) ?_
    refine o_imul hx hb dX8_monic_18 ?_
    refine lv_aload_n hx hb dX8_monic_19 rfl (lv_at hl 0 rfl) ?_
    refine m_get (k := 36) (C := RX8) (T := TX8) (N := 18) (ref := "LiftFactorsModel") (v := .ref (adr 42)) hx hb hi hts inX8_u hown hw (by decide) rfl 8 (by decide) q_1 rfl rfl dX8_monic_20 ?_
    refine lv_iload_n hx hb dX8_monic_23 rfl (lv_at hl 1 rfl) ?_
    replace h := bnd h
    obtain ⟨v2, e2, h⟩ := h
    refine o_iald hx hb hi hw e2 dX8_monic_24 ?_
    refine o_iadd hx hb dX8_monic_25 ?_
    replace h := bnd h
    obtain ⟨v3, e3, h⟩ := h
    refine o_lald hx hb hi hw e3 dX8_monic_26 ?_
    refine lv_aload_n hx hb dX8_monic_27 rfl (lv_at hl 0 rfl) ?_
    refine m_get (k := 36) (C := RX8) (T := TX8) (N := 18) (ref := "LiftFactorsModel") (v := .long (Int64.ofInt (M.1 36 9))) hx hb hi hts inX8_u hown hw (by decide) rfl 9 (by decide) q_29 rfl rfl dX8_monic_28 ?_
    refine lv_ldc2 (v := Int64.ofInt (2)) hx hb hown (hts _ q_36) dX8_monic_31 ?_
    refine o_lsub hx hb dX8_monic_34 ?_
    replace h := bnd h
    obtain ⟨v4, e4, h⟩ := h
    refine m_callVl (k := 36) (As := [.long (Int64.ofInt v3), .long (Int64.ofInt ((M.1 36 9) - (2)))]) (rest := []) cx.fix hi hw (cc_X8_power (l := l) (G := G) (sz := H.size) hi e4) (by decide) rfl rfl (w_cV 2 hts q_37 q_38 q_39 q_40 q_41 rfl rfl (by decide) (by decide)) hl.1 rfl (lv_room (Nat.le_of_ble_eq_true rfl)) dX8_monic_35 (fun H locs hw => ?_)
    refine lv_lstore_n (lv' := [(2, .long (Int64.ofInt v4)), (0, .ref (adr 36)), (1, .int (Int32.ofInt a0))]) hx hb dX8_monic_38 rfl hl (by decide) rfl (fun ls hl => ?_)
    refine lv_iconst (v := Int32.ofInt (0)) hx hb dX8_monic_39 rfl ?_
    refine lv_istore (lv' := [(4, .int (Int32.ofInt (0))), (2, .long (Int64.ofInt v4)), (0, .ref (adr 36)), (1, .int (Int32.ofInt a0))]) hx hb dX8_monic_40 hl (by decide) rfl (fun ls hl => ?_)
    replace h := bnd h
    obtain ⟨M15, j14, h⟩ := h
    refine lp_W (Wst := fun (st : MI × Int) => ∀ (ls : Array Slot) (H : Heap) (locs : List Loc), lv_has ls 5 [(0, .ref (adr 36)), (1, .int (Int32.ofInt a0)), (2, .long (Int64.ofInt v4)), (4, .int (Int32.ofInt st.2))] → wH G A s.heap s (LL adr) (wf G adr (tm st.1)) H locs → W p l e { frames := 2, cells := 0, slots := 0, locals := 56 } s m args below meth c H locs 0 0 Q (F0 m 42 ls [])) (fin := fun (r : MI) => ∀ (ls : Array Slot) (H : Heap) (locs : List Loc), lv_has ls 5 [] → wH G A s.heap s (LL adr) (wf G adr (tm r)) H locs → W p l e { frames := 2, cells := 0, slots := 0, locals := 56 } s m args below meth c H locs 0 0 Q (F0 m 114 ls [])) ?_ n _ _ j14 ?_ _ _ _ (lv_sub hl [2, 3, 1, 0] rfl) hw
    · clear h j14 hw hl
      intro ⟨M5, v6⟩ x h k1 k2 ls H locs hl hw
      (try dsimp only at k1 k2 hl hw ⊢)
      unfold l_X8_monic_42 at h
      (try dsimp only at h)
      refine lv_iload hx hb dX8_monic_42 (lv_at hl 3 rfl) ?_
      refine lv_aload_n hx hb dX8_monic_44 rfl (lv_at hl 0 rfl) ?_
      refine m_get (k := 36) (C := RX8) (T := TX8) (N := 18) (ref := "LiftFactorsModel") (v := .ref (adr 42)) hx hb hi hts inX8_u hown hw (by decide) rfl 8 (by decide) q_1 rfl rfl dX8_monic_45 ?_
      refine lv_iload_n hx hb dX8_monic_48 rfl (lv_at hl 1 rfl) ?_
      replace h := bnd h
      obtain ⟨v7, e7, h⟩ := h
      refine o_iald hx hb hi hw e7 dX8_monic_49 ?_
      replace h := bnd h
      obtain ⟨_, hg, h⟩ := h
      refine o_icmp_gt (tgt := 114) hx hb hg dX8_monic_50 (by decide) (fun hc => ?_) (fun hc => ?_)
      · replace h := ite_t hc h
        cases h
        exact k1 _ rfl _ _ _ (lv_sub hl [] rfl) hw
      · replace h := ite_f hc h
        refine lv_aload_n hx hb dX8_monic_53 rfl (lv_at hl 0 rfl) ?_
        refine m_get (k := 36) (C := RX8) (T := TX8) (N := 18) (ref := "LiftFactorsModel") (v := .ref (adr 41)) hx hb hi hts inX8_u hown hw (by decide) rfl 7 (by decide) q_0 rfl rfl dX8_monic_54 ?_
        refine lv_bipush (v := Int32.ofInt (24)) hx hb dX8_monic_57 rfl ?_
        refine lv_iload_n hx hb dX8_monic_59 rfl (lv_at hl 1 rfl) ?_
        refine o_imul hx hb dX8_monic_60 ?_
        refine lv_iload hx hb dX8_monic_61 (lv_at hl 3 rfl) ?_
        refine o_iadd hx hb dX8_monic_63 ?_
        refine lv_aload_n hx hb dX8_monic_64 rfl (lv_at hl 0 rfl) ?_
        refine m_get (k := 36) (C := RX8) (T := TX8) (N := 18) (ref := "LiftFactorsModel") (v := .long (Int64.ofInt (M5.1 36 9))) hx hb hi hts inX8_u hown hw (by decide) rfl 9 (by decide) q_29 rfl rfl dX8_monic_65 ?_
        refine lv_ldc2 (v := Int64.ofInt (2)) hx hb hown (hts _ q_36) dX8_monic_68 ?_
        replace h := bnd h
        obtain ⟨v11, j13, h⟩ := h
        have kj : ∀ (ls : Array Slot) (H : Heap) (locs : List Loc), lv_has ls 5 [(0, .ref (adr 36)), (1, .int (Int32.ofInt a0)), (2, .long (Int64.ofInt v4)), (4, .int (Int32.ofInt v6))] → wH G A s.heap s (LL adr) (wf G adr (tm M5)) H locs → W p l e { frames := 2, cells := 0, slots := 0, locals := 56 } s m args below meth c H locs 0 0 Q (F0 m 107 ls [.long (Int64.ofInt v11), .int (Int32.ofInt (((24) * a0) + v6)), .ref (adr 41)]) := by
          intro ls H locs hl hw
          replace h := bnd h
          obtain ⟨v12, e12, h⟩ := h
          refine o_last hx hb hi hw e12 dX8_monic_107 (fun H locs hw => ?_)
          refine lv_iinc (v := Int32.ofInt (v6 + 1)) (lv' := [(4, .int (Int32.ofInt (v6 + 1))), (0, .ref (adr 36)), (1, .int (Int32.ofInt a0)), (2, .long (Int64.ofInt v4))]) hx hb dX8_monic_108 hl (k := 3) rfl (inc_o _ _) (by decide) rfl (fun ls hl => ?_)
          refine lv_goto (tgt := 42) hx hb dX8_monic_111 (by decide) ?_
          cases h
          exact k2 _ rfl _ _ _ (lv_sub hl [1, 2, 3, 0] rfl) hw
        clear h
        replace h := j13
        clear j13
        replace h := bnd h
        obtain ⟨_, hg, h⟩ := h
        refine o_lcmp_ne (tgt := 90) hx hb hg dX8_monic_71 dX8_monic_72 (by decide) (fun hc => ?_) (fun hc => ?_)
        · replace h := ite_f hc h
          refine lv_aload_n hx hb dX8_monic_90 rfl (lv_at hl 0 rfl) ?_
          refine lv_aload_n hx hb dX8_monic_91 rfl (lv_at hl 0 rfl) ?_
          refine m_get (k := 36) (C := RX8) (T := TX8) (N := 18) (ref := "LiftFactorsModel") (v := .ref (adr 41)) hx hb hi hts inX8_u hown hw (by decide) rfl 7 (by decide) q_0 rfl rfl dX8_monic_92 ?_
          refine lv_bipush (v := Int32.ofInt (24)) hx hb dX8_monic_95 rfl ?_
          refine lv_iload_n hx hb dX8_monic_97 rfl (lv_at hl 1 rfl) ?_
          refine o_imul hx hb dX8_monic_98 ?_
          refine lv_iload hx hb dX8_monic_99 (lv_at hl 3 rfl) ?_
          refine o_iadd hx hb dX8_monic_101 ?_
          replace h := bnd h
          obtain ⟨v8, e8, h⟩ := h
          refine o_lald hx hb hi hw e8 dX8_monic_102 ?_
          refine lv_lload_n hx hb dX8_monic_103 rfl (lv_at hl 2 rfl) ?_
          replace h := bnd h
          obtain ⟨v9, e9, h⟩ := h
          refine m_callVl (k := 36) (As := [.long (Int64.ofInt v8), .long (Int64.ofInt v4)]) (rest := [.int (Int32.ofInt (((24) * a0) + v6)), .ref (adr 41)]) cx.fix hi hw (cc_X8_product (l := l) (G := G) (sz := H.size) hi e9) (by decide) rfl rfl (w_cV 2 hts q_31 q_32 q_33 q_34 q_35 rfl rfl (by decide) (by decide)) hl.1 rfl (lv_room (Nat.le_of_ble_eq_true rfl)) dX8_monic_104 (fun H locs hw => ?_)
          cases h
          exact kj _ _ _ (lv_sub hl [0, 1, 2, 3] rfl) hw
        · replace h := ite_t hc h
          refine lv_aload_n hx hb dX8_monic_75 rfl (lv_at hl 0 rfl) ?_
          refine m_get (k := 36) (C := RX8) (T := TX8) (N := 18) (ref := "LiftFactorsModel") (v := .ref (adr 41)) hx hb hi hts inX8_u hown hw (by decide) rfl 7 (by decide) q_0 rfl rfl dX8_monic_76 ?_
          refine lv_bipush (v := Int32.ofInt (24)) hx hb dX8_monic_79 rfl ?_
          refine lv_iload_n hx hb dX8_monic_81 rfl (lv_at hl 1 rfl) ?_
          refine o_imul hx hb dX8_monic_82 ?_
          refine lv_iload hx hb dX8_monic_83 (lv_at hl 3 rfl) ?_
          refine o_iadd hx hb dX8_monic_85 ?_
          replace h := bnd h
          obtain ⟨v10, e10, h⟩ := h
          refine o_lald hx hb hi hw e10 dX8_monic_86 ?_
          refine lv_goto (tgt := 107) hx hb dX8_monic_87 (by decide) ?_
          cases h
          exact kj _ _ _ (lv_sub hl [0, 1, 2, 3] rfl) hw
    · clear hw hl
      intro ls H locs hl hw
      (try dsimp only at hl hw ⊢)
      cases h
      exact kr _ _ _ _ dX8_monic_114 hw
  · replace h := ite_f hc h
    cases h
    exact kr _ _ _ _ dX8_monic_9 hw
theorem cc_X8_monic {l : Launch} {G : gG} {adr : Nat → Nat} {sz : Nat} (hi : adi adr) {n : Nat} {a0 : Int} {M M' : MI} (h : f_X8_monic n a0 M = some M') : mV l yX8_monic cX8_monic 5 none { frames := 2, cells := 0, slots := 0, locals := 56 } G adr [.ref (adr 36), .int (Int32.ofInt a0)] (tm M) sz (tm M') := by
  refine wEnter (by decide) (Nat.le_of_ble_eq_true rfl) ?_
  intro p e s m below meth c ls cx hinit hl hsz hw
  exact b_X8_monic cx hi h (fun pc ls H locs hd hw => w_vret (post := fun (u : Mem) => u = tm M') (lf := fun u => (LL adr, wf G adr u)) cx.1 cx.2.1 cx.2.2.1 cx.2.2.2.2.2.2 (tm M') hw rfl hd) hl hw
def l_X8_rest_58 (a0 : Int) (a1 : Int) (v4 : Int) (v6 : Int) : MI × Int → Option ((MI) ⊕ (MI × Int)) := fun (M8, v9) =>
  Option.bind (odI M8 42 a1) fun v10 =>
  Option.bind (gI v9 v10) fun _ =>
  if v10 < v9 then
    some (.inl M8)
  else
    Option.bind (gJ v6 (0)) fun _ =>
    if v6 = (0) then
      some (.inl M8)
    else
      Option.bind (odJ M8 41 ((((24) * a0) + v4) + v9)) fun v11 =>
      Option.bind (odJ M8 41 (((24) * a1) + v9)) fun v12 =>
      Option.bind (f_X8_product v6 v12 M8) fun v13 =>
      Option.bind (
        Option.bind (gJ (v11 - v13) (0)) fun _ =>
        if (0) ≤ (v11 - v13) then
          some (v11 - v13)
        else
          some ((v11 - v13) + (M8.1 36 9))) fun v14 =>
      Option.bind (osJ M8 41 ((((24) * a0) + v4) + v9) v14) fun v15 =>
      some (.inr (v15, v9 + 1))
def l_X8_rest_17 (n : Nat) (a0 : Int) (a1 : Int) : MI × Int → Option ((MI) ⊕ (MI × Int)) := fun (M3, v4) =>
  Option.bind (gI v4 0) fun _ =>
  if v4 < 0 then
    some (.inl M3)
  else
    Option.bind (odI M3 42 a1) fun v5 =>
    Option.bind (odJ M3 41 ((((24) * a0) + v4) + v5)) fun v6 =>
    Option.bind (osJ M3 41 ((72) + v4) v6) fun v7 =>
    Option.bind (lpF (l_X8_rest_58 a0 a1 v4 v6) n (v7, (0))) fun M18 =>
    some (.inr (M18, v4 + (-1)))
def f_X8_rest (n : Nat) (a0 : Int) (a1 : Int) (M : MI) : Option MI :=
  Option.bind (odI M 42 a0) fun v1 =>
  Option.bind (odI M 42 a1) fun v2 =>
  Option.bind (lpF (l_X8_rest_17 n a0 a1) n (M, v1 - v2)) fun M20 =>
  Option.bind (odI M20 42 a1) fun v21 =>
  Option.bind (f_X8_trim n (3) (v1 - v21) M20) fun v22 =>
  Option.bind (odI v22 42 a1) fun v23 =>
  Option.bind (
    Option.bind (gI v1 v23) fun _ =>
    if v23 ≤ v1 then
      Option.bind (odI v22 42 a1) fun v24 =>
      some (v24 - (1))
    else
      some v1) fun v25 =>
  Option.bind (f_X8_trim n a0 v25 v22) fun v26 =>
  some v26
set_option maxRecDepth 100000 in
set_option maxHeartbeats 8000000 in
theorem b_X8_rest {p : Program} {l : Launch} {e : Env} {s : State} {m : MethodId} {args : Array Value} {below : List Frame} {meth : Method} {c : Code} {Q : State → Prop} {G : gG} {A : Nat → Prop} {adr : Nat → Nat} (cx : cX p s m args meth c cX8_rest none 10 yX8_rest.cls) (hi : adi adr) {n : Nat} {a0 : Int} {a1 : Int} {M M' : MI} 
    (h : f_X8_rest n a0 a1 M = some M')
    (kr : ∀ (pc : Nat) (ls : Array Slot) (H : Heap) (locs : List Loc), decode cX8_rest pc = .ok (.return_, 1) → wH G A s.heap s (LL adr) (wf G adr (tm M')) H locs → W p l e { frames := 1, cells := 0, slots := 0, locals := 26 } s m args below meth c H locs 0 0 Q (F0 m pc ls []))
    {ls : Array Slot} {H : Heap} {locs : List Loc} (hl : lv_has ls 10 [(0, .ref (adr 36)), (1, .int (Int32.ofInt a0)), (2, .int (Int32.ofInt a1))]) (hw : wH G A s.heap s (LL adr) (wf G adr (tm M)) H locs) : W p l e { frames := 1, cells := 0, slots := 0, locals := 26 } s m args below meth c H locs 0 0 Q (F0 m 0 ls []) := by
  obtain ⟨hx, hb, -, -, hown, hts, -⟩ := id cx
  have hown : s.vm.findClass RX8 = some m.cls := hown
  unfold f_X8_rest at h
  refine lv_aload_n hx hb dX8_rest_0 rfl (lv_at hl 0 rfl) ?_
  refine m_get (k := 36) (C := RX8) (T := TX8) (N := 18) (ref := "LiftFactorsModel") (v := .ref (adr 42)) hx hb hi hts inX8_u hown hw (by decide) rfl 8 (by decide) q_1 rfl rfl dX8_rest_1 ?_
  refine lv_iload_n hx hb dX8_rest_4 rfl (lv_at hl 1 rfl) ?_
  replace h := bnd h
  obtain ⟨v1, e1, h⟩ := h
  refine o_iald hx hb hi hw e1 dX8_rest_5 ?_
  refine lv_istore_n (lv' := [(3, .int (Int32.ofInt v1)), (0, .ref (adr 36)), (1, .int (Int32.ofInt a0)), (2, .int (Int32.ofInt a1))]) hx hb dX8_rest_6 rfl hl (by decide) rfl (fun ls hl => ?_)
  refine lv_iload_n hx hb dX8_rest_7 rfl (lv_at hl 0 rfl) ?_
  refine lv_aload_n hx hb dX8_rest_8 rfl (lv_at hl 1 rfl) ?_
  refine m_get (k := 36) (C := RX8) (T := TX8) (N := 18) (ref := "LiftFactorsModel") (v := .ref (adr 42)) hx hb hi hts inX8_u hown hw (by decide) rfl 8 (by decide) q_1 rfl rfl dX8_rest_9 ?_
  refine lv_iload_n hx hb dX8_rest_12 rfl (lv_at hl 3 rfl) ?_
  replace h := bnd h
  obtain ⟨v2, e2, h⟩ := h
  refine o_iald hx hb hi hw e2 dX8_rest_13 ?_
  refine o_isub hx hb dX8_rest_14 ?_
  refine lv_istore (lv' := [(4, .int (Int32.ofInt (v1 - v2))), (3, .int (Int32.ofInt v1)), (0, .ref (adr 36)), (1, .int (Int32.ofInt a0)), (2, .int (Int32.ofInt a1))]) hx hb dX8_rest_15 hl (by decide) rfl (fun ls hl => ?_)
  replace h := bnd h
  obtain ⟨M20, j19, h⟩ := h
  refine lp_W (Wst := fun (st : MI × Int) => ∀ (ls : Array Slot) (H : Heap) (locs : List Loc), lv_has ls 10 [(0, .ref (adr 36)), (1, .int (Int32.ofInt a0)), (2, .int (Int32.ofInt a1)), (3, .int (Int32.ofInt v1)), (4, .int (Int32.ofInt st.2))] → wH G A s.heap s (LL adr) (wf G adr (tm st.1)) H locs → W p l e { frames := 1, cells := 0, slots := 0, locals := 26 } s m args below meth c H locs 0 0 Q (F0 m 17 ls [])) (fin := fun (r : MI) => ∀ (ls : Array Slot) (H : Heap) (locs : List Loc), lv_has ls 10 [(0, .ref (adr 36)), (1, .int (Int32.ofInt a0)), (2, .int (Int32.ofInt a1)), (3, .int (Int32.ofInt v1))] → wH G A s.heap s (LL adr) (wf G adr (tm r)) H locs → W p l e { frames := 1, cells := 0, slots := 0, locals := 26 } s m args below meth c H locs 0 0 Q (F0 m 158 ls [])) ?_ n _ _ j19 ?_ _ _ _ (lv_sub hl [2, 3, 4, 1, 0] rfl) hw
  · clear h j19 hw hl
    intro ⟨M3, v4⟩ x h k1 k2 ls H locs hl hw
    (try dsimp only at k1 k2 hl hw ⊢)
    unfold l_X8_rest_17 at h
    (try dsimp only at h)
    refine lv_iload hx hb dX8_rest_17 (lv_at hl 4 rfl) ?_
    replace h := bnd h
    obtain ⟨_, hg, h⟩ := h
    refine o_if_lt (tgt := 158) hx hb hg dX8_rest_19 (by decide) (fun hc => ?_) (fun hc => ?_)
    · replace h := ite_t hc h
      cases h
      exact k1 _ rfl _ _ _ (lv_sub hl [0, 1, 2, 3] rfl) hw
    · replace h := ite_f hc h
      refine lv_aload_n hx hb dX8_rest_22 rfl (lv_at hl 0 rfl) ?_
      refine m_get (k := 36) (C := RX8) (T := TX8) (N := 18) (ref := "LiftFactorsModel") (v := .ref (adr 41)) hx hb hi hts inX8_u hown hw (by decide) rfl 7 (by decide) q_0 rfl rfl dX8_rest_23 ?_
      refine lv_bipush (v := Int32.ofInt (24)) hx hb dX8_rest_26 rfl ?_
      refine lv_iload_n hx hb dX8_rest_28 rfl (lv_at hl 1 rfl) ?_
      refine o_imul hx hb dX8_rest_29 ?_
      refine lv_iload hx hb dX8_rest_30 (lv_at hl 4 rfl) ?_
      refine o_iadd hx hb dX8_rest_32 ?_
      refine lv_aload_n hx hb dX8_rest_33 rfl (lv_at hl 0 rfl) ?_
      refine m_get (k := 36) (C := RX8) (T := TX8) (N := 18) (ref := "LiftFactorsModel") (v := .ref (adr 42)) hx hb hi hts inX8_u hown hw (by decide) rfl 8 (by decide) q_1 rfl rfl dX8_rest_34 ?_
      refine lv_iload_n hx hb dX8_rest_37 rfl (lv_at hl 2 rfl) ?_
      replace h := bnd h
      obtain ⟨v5, e5, h⟩ := h
      refine o_iald hx hb hi hw e5 dX8_rest_38 ?_
      refine o_iadd hx hb dX8_rest_39 ?_
      replace h := bnd h
      obtain ⟨v6, e6, h⟩ := h
      refine o_lald hx hb hi hw e6 dX8_rest_40 ?_
      refine lv_lstore (lv' := [(5, .long (Int64.ofInt v6)), (0, .ref (adr 36)), (1, .int (Int32.ofInt a0)), (2, .int (Int32.ofInt a1)), (3, .int (Int32.ofInt v1)), (4, .int (Int32.ofInt v4))]) hx hb dX8_rest_41 hl (by decide) rfl (fun ls hl => ?_)
      refine lv_aload_n hx hb dX8_rest_43 rfl (lv_at hl 1 rfl) ?_
      refine m_get (k := 36) (C := RX8) (T := TX8) (N := 18) (ref := "LiftFactorsModel") (v := .ref (adr 41)) hx hb hi hts inX8_u hown hw (by decide) rfl 7 (by decide) q_0 rfl rfl dX8_rest_44 ?_
      refine lv_bipush (v := Int32.ofInt (72)) hx hb dX8_rest_47 rfl ?_
      refine lv_iload hx hb dX8_rest_49 (lv_at hl 5 rfl) ?_
      refine o_iadd hx hb dX8_rest_51 ?_
      refine lv_lload hx hb dX8_rest_52 (lv_at hl 0 rfl) ?_
      replace h := bnd h
      obtain ⟨v7, e7, h⟩ := h
      refine o_last hx hb hi hw e7 dX8_rest_54 (fun H locs hw => ?_)
      refine lv_iconst (v := Int32.ofInt (0)) hx hb dX8_rest_55 rfl ?_
      refine lv_istore (lv' := [(7, .int (Int32.ofInt (0))), (5, .long (Int64.ofInt v6)), (0, .ref (adr 36)), (1, .int (Int32.ofInt a0)), (2, .int (Int32.ofInt a1)), (3, .int (Int32.ofInt v1)), (4, .int (Int32.ofInt v4))]) hx hb dX8_rest_56 hl (by decide) rfl (fun ls hl => ?_)
      replace h := bnd h
      obtain ⟨M18, j17, h⟩ := h
      refine lp_W (Wst := fun (st : MI × Int) => ∀ (ls : Array Slot) (H : Heap) (locs : List Loc), lv_has ls 10 [(0, .ref (adr 36)), (1, .int (Int32.ofInt a0)), (2, .int (Int32.ofInt a1)), (3, .int (Int32.ofInt v1)), (4, .int (Int32.ofInt v4)), (5, .long (Int64.ofInt v6)), (7, .int (Int32.ofInt st.2))] → wH G A s.heap s (LL adr) (wf G adr (tm st.1)) H locs → W p l e { frames := 1, cells := 0, slots := 0, locals := 26 } s m args below meth c H locs 0 0 Q (F0 m 58 ls [])) (fin := fun (r : MI) => ∀ (ls : Array Slot) (H : Heap) (locs : List Loc), lv_has ls 10 [(0, .ref (adr 36)), (1, .int (Int32.ofInt a0)), (2, .int (Int32.ofInt a1)), (3, .int (Int32.ofInt v1)), (4, .int (Int32.ofInt v4))] → wH G A s.heap s (LL adr) (wf G adr (tm r)) H locs → W p l e { frames := 1, cells := 0, slots := 0, locals := 26 } s m args below meth c H locs 0 0 Q (F0 m 152 ls [])) ?_ n _ _ j17 ?_ _ _ _ (lv_sub hl [2, 3, 4, 5, 6, 1, 0] rfl) hw
      · clear h j17 hw hl
        intro ⟨M8, v9⟩ x h k1 k2 ls H locs hl hw
        (try dsimp only at k1 k2 hl hw ⊢)
        unfold l_X8_rest_58 at h
        (try dsimp only at h)
        refine lv_iload hx hb dX8_rest_58 (lv_at hl 6 rfl) ?_
        refine lv_aload_n hx hb dX8_rest_60 rfl (lv_at hl 0 rfl) ?_
        refine m_get (k := 36) (C := RX8) (T := TX8) (N := 18) (ref := "LiftFactorsModel") (v := .ref (adr 42)) hx hb hi hts inX8_u hown hw (by decide) rfl 8 (by decide) q_1 rfl rfl dX8_rest_61 ?_
        refine lv_iload_n hx hb dX8_rest_64 rfl (lv_at hl 2 rfl) ?_
        replace h := bnd h
        obtain ⟨v10, e10, h⟩ := h
        refine o_iald hx hb hi hw e10 dX8_rest_65 ?_
        replace h := bnd h
        obtain ⟨_, hg, h⟩ := h
        refine o_icmp_gt (tgt := 152) hx hb hg dX8_rest_66 (by decide) (fun hc => ?_) (fun hc => ?_)
        · replace h := ite_t hc h
          cases h
          exact k1 _ rfl _ _ _ (lv_sub hl [0, 1, 2, 3, 4] rfl) hw
        · replace h := ite_f hc h
          refine lv_lload hx hb dX8_rest_69 (lv_at hl 5 rfl) ?_
          refine lv_lconst (v := Int64.ofInt (0)) hx hb dX8_rest_71 (by decide) ?_
          replace h := bnd h
          obtain ⟨_, hg, h⟩ := h
          refine o_lcmp_eq (tgt := 152) hx hb hg dX8_rest_72 dX8_rest_73 (by decide) (fun hc => ?_) (fun hc => ?_)
          · replace h := ite_t hc h
            cases h
            exact k1 _ rfl _ _ _ (lv_sub hl [0, 1, 2, 3, 4] rfl) hw
          · replace h := ite_f hc h
            refine lv_aload_n hx hb dX8_rest_76 rfl (lv_at hl 0 rfl) ?_
            refine m_get (k := 36) (C := RX8) (T := TX8) (N := 18) (ref := "LiftFactorsModel") (v := .ref (adr 41)) hx hb hi hts inX8_u hown hw (by decide) rfl 7 (by decide) q_0 rfl rfl dX8_rest_77 ?_
            refine lv_bipush (v := Int32.ofInt (24)) hx hb dX8_rest_80 rfl ?_
            refine lv_iload_n hx hb dX8_rest_82 rfl (lv_at hl 1 rfl) ?_
            refine o_imul hx hb dX8_rest_83 ?_
            refine lv_iload hx hb dX8_rest_84 (lv_at hl 4 rfl) ?_
            refine o_iadd hx hb dX8_rest_86 ?_
            refine lv_iload hx hb dX8_rest_87 (lv_at hl 6 rfl) ?_
            refine o_iadd hx hb dX8_rest_89 ?_
            replace h := bnd h
            obtain ⟨v11, e11, h⟩ := h
            refine o_lald hx hb hi hw e11 dX8_rest_90 ?_
            refine lv_aload_n hx hb dX8_rest_91 rfl (lv_at hl 0 rfl) ?_
            refine lv_lload hx hb dX8_rest_92 (lv_at hl 5 rfl) ?_
            refine lv_aload_n hx hb dX8_rest_94 rfl (lv_at hl 0 rfl) ?_
            refine m_get (k := 36) (C := RX8) (T := TX8) (N := 18) (ref := "LiftFactorsModel") (v := .ref (adr 41)) hx hb hi hts inX8_u hown hw (by decide) rfl 7 (by decide) q_0 rfl rfl dX8_rest_95 ?_
            refine lv_bipush (v := Int32.ofInt (24)) hx hb dX8_rest_98 rfl ?_
            refine lv_iload_n hx hb dX8_rest_100 rfl (lv_at hl 2 rfl) ?_
            refine o_imul hx hb dX8_rest_101 ?_
            refine lv_iload hx hb dX8_rest_102 (lv_at hl 6 rfl) ?_
            refine o_iadd hx hb dX8_rest_104 ?_
            replace h := bnd h
            obtain ⟨v12, e12, h⟩ := h
            refine o_lald hx hb hi hw e12 dX8_rest_105 ?_
            replace h := bnd h
            obtain ⟨v13, e13, h⟩ := h
            refine m_callVl (k := 36) (As := [.long (Int64.ofInt v6), .long (Int64.ofInt v12)]) (rest := [.long (Int64.ofInt v11)]) cx.fix hi hw (cc_X8_product (l := l) (G := G) (sz := H.size) hi e13) (by decide) rfl rfl (w_cV 2 hts q_31 q_32 q_33 q_34 q_35 rfl rfl (by decide) (by decide)) hl.1 rfl (lv_room (Nat.le_of_ble_eq_true rfl)) dX8_rest_106 (fun H locs hw => ?_)
            refine o_lsub hx hb dX8_rest_109 ?_
            refine lv_lstore (lv' := [(8, .long (Int64.ofInt (v11 - v13))), (0, .ref (adr 36)), (1, .int (Int32.ofInt a0)), (2, .int (Int32.ofInt a1)), (3, .int (Int32.ofInt v1)), (4, .int (Int32.ofInt v4)), (5, .long (Int64.ofInt v6)), (7, .int (Int32.ofInt v9))]) hx hb dX8_rest_110 hl (by decide) rfl (fun ls hl => ?_)
            refine lv_aload_n hx hb dX8_rest_112 rfl (lv_at hl 1 rfl) ?_
            refine m_get (k := 36) (C := RX8) (T := TX8) (N := 18) (ref := "LiftFactorsModel") (v := .ref (adr 41)) hx hb hi hts inX8_u hown hw (by decide) rfl 7 (by decide) q_0 rfl rfl dX8_rest_113 ?_
            refine lv_bipush (v := Int32.ofInt (24)) hx hb dX8_rest_116 rfl ?_
            refine lv_iload_n hx hb dX8_rest_118 rfl (lv_at hl 2 rfl) ?_
            refine o_imul hx hb dX8_rest_119 ?_
            refine lv_iload hx hb dX8_rest_120 (lv_at hl 5 rfl) ?_
            refine o_iadd hx hb dX8_rest_122 ?_
            refine lv_iload hx hb dX8_rest_123 (lv_at hl 7 rfl) ?_
            refine o_iadd hx hb dX8_rest_125 ?_
            refine lv_lload hx hb dX8_rest_126 (lv_at hl 0 rfl) ?_
            refine lv_lconst (v := Int64.ofInt (0)) hx hb dX8_rest_128 (by decide) ?_
            replace h := bnd h
            obtain ⟨v14, j16, h⟩ := h
            have kj : ∀ (ls : Array Slot) (H : Heap) (locs : List Loc), lv_has ls 10 [(0, .ref (adr 36)), (1, .int (Int32.ofInt a0)), (2, .int (Int32.ofInt a1)), (3, .int (Int32.ofInt v1)), (4, .int (Int32.ofInt v4)), (5, .long (Int64.ofInt v6)), (7, .int (Int32.ofInt v9))] → wH G A s.heap s (LL adr) (wf G adr (tm M8)) H locs → W p l e { frames := 1, cells := 0, slots := 0, locals := 26 } s m args below meth c H locs 0 0 Q (F0 m 145 ls [.long (Int64.ofInt v14), .int (Int32.ofInt ((((24) * a0) + v4) + v9)), .ref (adr 41)]) := by
              intro ls H locs hl hw
              replace h := bnd h
              obtain ⟨v15, e15, h⟩ := h
              refine o_last hx hb hi hw e15 dX8_rest_145 (fun H locs hw => ?_)
              refine lv_iinc (v := Int32.ofInt (v9 + 1)) (lv' := [(7, .int (Int32.ofInt (v9 + 1))), (0, .ref (adr 36)), (1, .int (Int32.ofInt a0)), (2, .int (Int32.ofInt a1)), (3, .int (Int32.ofInt v1)), (4, .int (Int32.ofInt v4)), (5, .long (Int64.ofInt v6))]) hx hb dX8_rest_146 hl (k := 6) rfl (inc_o _ _) (by decide) rfl (fun ls hl => ?_)
              refine lv_goto (tgt := 58) hx hb dX8_rest_149 (by decide) ?_
              cases h
              exact k2 _ rfl _ _ _ (lv_sub hl [1, 2, 3, 4, 5, 6, 0] rfl) hw
            clear h
            replace h := j16
            clear j16
            replace h := bnd h
            obtain ⟨_, hg, h⟩ := h
            refine o_lcmp_ge (tgt := 143) hx hb hg dX8_rest_129 dX8_rest_130 (by decide) (fun hc => ?_) (fun hc => ?_)
            · replace h := ite_t hc h
              refine lv_lload hx hb dX8_rest_143 (lv_at hl 0 rfl) ?_
              cases h
              exact kj _ _ _ (lv_sub hl [1, 2, 3, 4, 5, 6, 7] rfl) hw
            · replace h := ite_f hc h
              refine lv_lload hx hb dX8_rest_133 (lv_at hl 0 rfl) ?_
              refine lv_aload_n hx hb dX8_rest_135 rfl (lv_at hl 1 rfl) ?_
              refine m_get (k := 36) (C := RX8) (T := TX8) (N := 18) (ref := "LiftFactorsModel") (v := .long (Int64.ofInt (M8.1 36 9))) hx hb hi hts inX8_u hown hw (by decide) rfl 9 (by decide) q_29 rfl rfl dX8_rest_136 ?_
              refine o_ladd hx hb dX8_rest_139 ?_
              refine lv_goto (tgt := 145) hx hb dX8_rest_140 (by decide) ?_
              cases h
              exact kj _ _ _ (lv_sub hl [1, 2, 3, 4, 5, 6, 7] rfl) hw
      · clear hw hl
        intro ls H locs hl hw
        (try dsimp only at hl hw ⊢)
        refine lv_iinc (v := Int32.ofInt (v4 + (-1))) (lv' := [(4, .int (Int32.ofInt (v4 + (-1)))), (0, .ref (adr 36)), (1, .int (Int32.ofInt a0)), (2, .int (Int32.ofInt a1)), (3, .int (Int32.ofInt v1))]) hx hb dX8_rest_152 hl (k := 4) rfl (inc_o _ _) (by decide) rfl (fun ls hl => ?_)
        refine lv_goto (tgt := 17) hx hb dX8_rest_155 (by decide) ?_
        cases h
        exact k2 _ rfl _ _ _ (lv_sub hl [1, 2, 3, 4, 0] rfl) hw
  · clear hw hl
    intro ls H locs hl hw
    (try dsimp only at hl hw ⊢)
    refine lv_aload_n hx hb dX8_rest_158 rfl (lv_at hl 0 rfl) ?_
    refine lv_iconst (v := Int32.ofInt (3)) hx hb dX8_rest_159 rfl ?_
    refine lv_iload_n hx hb dX8_rest_160 rfl (lv_at hl 3 rfl) ?_
    refine lv_aload_n hx hb dX8_rest_161 rfl (lv_at hl 0 rfl) ?_
    refine m_get (k := 36) (C := RX8) (T := TX8) (N := 18) (ref := "LiftFactorsModel") (v := .ref (adr 42)) hx hb hi hts inX8_u hown hw (by decide) rfl 8 (by decide) q_1 rfl rfl dX8_rest_162 ?_
    refine lv_iload_n hx hb dX8_rest_165 rfl (lv_at hl 2 rfl) ?_
    replace h := bnd h
    obtain ⟨v21, e21, h⟩ := h
    refine o_iald hx hb hi hw e21 dX8_rest_166 ?_
    refine o_isub hx hb dX8_rest_167 ?_
    replace h := bnd h
    obtain ⟨v22, e22, h⟩ := h
    refine m_callVv (k := 36) (As := [.int (Int32.ofInt (3)), .int (Int32.ofInt (v1 - v21))]) (rest := []) cx.fix hi hw (cc_X8_trim (l := l) (G := G) (sz := H.size) hi e22) (by decide) rfl rfl (w_cV 2 hts q_11 q_12 q_13 q_14 q_15 rfl rfl (by decide) (by decide)) hl.1 rfl (lv_room (Nat.le_of_ble_eq_true rfl)) dX8_rest_168 (fun H locs hw => ?_)
    refine lv_aload_n hx hb dX8_rest_171 rfl (lv_at hl 0 rfl) ?_
    refine lv_iload_n hx hb dX8_rest_172 rfl (lv_at hl 1 rfl) ?_
    refine lv_iload_n hx hb dX8_rest_173 rfl (lv_at hl 3 rfl) ?_
    refine lv_aload_n hx hb dX8_rest_174 rfl (lv_at hl 0 rfl) ?_
    refine m_get (k := 36) (C := RX8) (T := TX8) (N := 18) (ref := "LiftFactorsModel") (v := .ref (adr 42)) hx hb hi hts inX8_u hown hw (by decide) rfl 8 (by decide) q_1 rfl rfl dX8_rest_175 ?_
    refine lv_iload_n hx hb dX8_rest_178 rfl (lv_at hl 2 rfl) ?_
    replace h := bnd h
    obtain ⟨v23, e23, h⟩ := h
    refine o_iald hx hb hi hw e23 dX8_rest_179 ?_
    replace h := bnd h
    obtain ⟨v25, j27, h⟩ := h
    have kj : ∀ (ls : Array Slot) (H : Heap) (locs : List Loc), lv_has ls 10 [] → wH G A s.heap s (LL adr) (wf G adr (tm v22)) H locs → W p l e { frames := 1, cells := 0, slots := 0, locals := 26 } s m args below meth c H locs 0 0 Q (F0 m 195 ls [.int (Int32.ofInt v25), .int (Int32.ofInt a0), .ref (adr 36)]) := by
      intro ls H locs hl hw
      replace h := bnd h
      obtain ⟨v26, e26, h⟩ := h
      refine m_callVv (k := 36) (As := [.int (Int32.ofInt a0), .int (Int32.ofInt v25)]) (rest := []) cx.fix hi hw (cc_X8_trim (l := l) (G := G) (sz := H.size) hi e26) (by decide) rfl rfl (w_cV 2 hts q_11 q_12 q_13 q_14 q_15 rfl rfl (by decide) (by decide)) hl.1 rfl (lv_room (Nat.le_of_ble_eq_true rfl)) dX8_rest_195 (fun H locs hw => ?_)
      cases h
      exact kr _ _ _ _ dX8_rest_198 hw
    clear h
    replace h := j27
    clear j27
    replace h := bnd h
    obtain ⟨_, hg, h⟩ := h
    refine o_icmp_ge (tgt := 187) hx hb hg dX8_rest_180 (by decide) (fun hc => ?_) (fun hc => ?_)
    · replace h := ite_t hc h
      refine lv_aload_n hx hb dX8_rest_187 rfl (lv_at hl 0 rfl) ?_
      refine m_get (k := 36) (C := RX8) (T := TX8) (N := 18) (ref := "LiftFactorsModel") (v := .ref (adr 42)) hx hb hi hts inX8_u hown hw (by decide) rfl 8 (by decide) q_1 rfl rfl dX8_rest_188 ?_
      refine lv_iload_n hx hb dX8_rest_191 rfl (lv_at hl 2 rfl) ?_
      replace h := bnd h
      obtain ⟨v24, e24, h⟩ := h
      refine o_iald hx hb hi hw e24 dX8_rest_192 ?_
      refine lv_iconst (v := Int32.ofInt (1)) hx hb dX8_rest_193 rfl ?_
      refine o_isub hx hb dX8_rest_194 ?_
      cases h
      exact kj _ _ _ (lv_sub hl [] rfl) hw
    · replace h := ite_f hc h
      refine lv_iload_n hx hb dX8_rest_183 rfl (lv_at hl 3 rfl) ?_
      refine lv_goto (tgt := 195) hx hb dX8_rest_184 (by decide) ?_
      cases h
      exact kj _ _ _ (lv_sub hl [] rfl) hw
theorem cc_X8_rest {l : Launch} {G : gG} {adr : Nat → Nat} {sz : Nat} (hi : adi adr) {n : Nat} {a0 : Int} {a1 : Int} {M M' : MI} (h : f_X8_rest n a0 a1 M = some M') : mV l yX8_rest cX8_rest 10 none { frames := 1, cells := 0, slots := 0, locals := 26 } G adr [.ref (adr 36), .int (Int32.ofInt a0), .int (Int32.ofInt a1)] (tm M) sz (tm M') := by
  refine wEnter (by decide) (Nat.le_of_ble_eq_true rfl) ?_
  intro p e s m below meth c ls cx hinit hl hsz hw
  exact b_X8_rest cx hi h (fun pc ls H locs hd hw => w_vret (post := fun (u : Mem) => u = tm M') (lf := fun u => (LL adr, wf G adr u)) cx.1 cx.2.1 cx.2.2.1 cx.2.2.2.2.2.2 (tm M') hw rfl hd) hl hw
theorem q_42 : Cond.methodLink RX8 89 yX8_rest ∈ uU := uU_in (by decide +kernel) (by decide +kernel)
theorem q_43 : Cond.instanceMethod yX8_rest ∈ uU := uU_in (by decide +kernel) (by decide +kernel)
theorem q_44 : Cond.selects yX8_rest.cls yX8_rest yX8_rest ∈ uU := uU_in (by decide +kernel) (by decide +kernel)
theorem q_45 : Cond.initialized yX8_rest.cls ∈ uU := uU_in (by decide +kernel) (by decide +kernel)
theorem q_46 : Cond.code yX8_rest cX8_rest 10 none ∈ uU := uU_in (by decide +kernel) (by decide +kernel)
def l_X8_multiply_40 (v5 : Int) : MI × Int → Option ((MI) ⊕ (MI × Int)) := fun (M6, v7) =>
  Option.bind (gI v7 v5) fun _ =>
  if v5 < v7 then
    some (.inl M6)
  else
    Option.bind (osJ M6 41 ((192) + v7) (0)) fun v8 =>
    some (.inr (v8, v7 + 1))
def l_X8_multiply_87 (a0 : Int) (a1 : Int) (v12 : Int) : MI × Int → Option ((MI) ⊕ (MI × Int)) := fun (M14, v15) =>
  Option.bind (odI M14 42 a1) fun v16 =>
  Option.bind (gI v15 v16) fun _ =>
  if v16 < v15 then
    some (.inl M14)
  else
    Option.bind (odJ M14 41 (((192) + v12) + v15)) fun v17 =>
    Option.bind (odJ M14 41 (((24) * a0) + v12)) fun v18 =>
    Option.bind (odJ M14 41 (((24) * a1) + v15)) fun v19 =>
    Option.bind (f_X8_product v18 v19 M14) fun v20 =>
    Option.bind (
      Option.bind (gJ (v17 + v20) (M14.1 36 9)) fun _ =>
      if (v17 + v20) < (M14.1 36 9) then
        some (v17 + v20)
      else
        some ((v17 + v20) - (M14.1 36 9))) fun v21 =>
    Option.bind (osJ M14 41 (((192) + v12) + v15) v21) fun v22 =>
    some (.inr (v22, v15 + 1))
def l_X8_multiply_68 (n : Nat) (a0 : Int) (a1 : Int) (v5 : Int) : MI × Int → Option ((MI) ⊕ (MI × Int)) := fun (M11, v12) =>
  Option.bind (odI M11 42 a0) fun v13 =>
  Option.bind (gI v12 v13) fun _ =>
  if v13 < v12 then
    some (.inl M11)
  else
    Option.bind (gI v5 0) fun _ =>
    if v5 < 0 then
      some (.inl M11)
    else
      Option.bind (lpF (l_X8_multiply_87 a0 a1 v12) n (M11, (0))) fun M25 =>
      some (.inr (M25, v12 + 1))
def f_X8_multiply (n : Nat) (a0 : Int) (a1 : Int) (a2 : Int) (a3 : Int) (M : MI) : Option MI :=
  Option.bind (odI M 42 a0) fun v1 =>
  Option.bind (
    Option.bind (gI v1 0) fun _ =>
    if v1 < 0 then
      some (-1)
    else
      Option.bind (odI M 42 a1) fun v2 =>
      Option.bind (gI v2 0) fun _ =>
      if 0 ≤ v2 then
        Option.bind (odI M 42 a0) fun v3 =>
        Option.bind (odI M 42 a1) fun v4 =>
        some (v3 + v4)
      else
        some (-1)) fun v5 =>
  Option.bind (lpF (l_X8_multiply_40 v5) n (M, (0))) fun M10 =>
  Option.bind (lpF (l_X8_multiply_68 n a0 a1 v5) n (M10, (0))) fun M27 =>
  Option.bind (f_X8_trim n (8) v5 M27) fun v28 =>
  Option.bind (f_X8_rest n (8) a2 v28) fun v29 =>
  Option.bind (f_X8_copy n (8) a3 v29) fun v30 =>
  some v30
set_option maxRecDepth 100000 in
set_option maxHeartbeats 8000000 in
theorem b_X8_multiply {p : Program} {l : Launch} {e : Env} {s : State} {m : MethodId} {args : Array Value} {below : List Frame} {meth : Method} {c : Code} {Q : State → Prop} {G : gG} {A : Nat → Prop} {adr : Nat → Nat} (cx : cX p s m args meth c cX8_multiply none 10 yX8_multiply.cls) (hi : adi adr) {n : Nat} {a0 : Int} {a1 : Int} {a2 : Int} {a3 : Int} {M M' : MI} 
    (h : f_X8_multiply n a0 a1 a2 a3 M = some M')
    (kr : ∀ (pc : Nat) (ls : Array Slot) (H : Heap) (locs : List Loc), decode cX8_multiply pc = .ok (.return_, 1) → wH G A s.heap s (LL adr) (wf G adr (tm M')) H locs → W p l e { frames := 2, cells := 0, slots := 0, locals := 55 } s m args below meth c H locs 0 0 Q (F0 m pc ls []))
    {ls : Array Slot} {H : Heap} {locs : List Loc} (hl : lv_has ls 10 [(0, .ref (adr 36)), (1, .int (Int32.ofInt a0)), (2, .int (Int32.ofInt a1)), (3, .int (Int32.ofInt a2)), (4, .int (Int32.ofInt a3))]) (hw : wH G A s.heap s (LL adr) (wf G adr (tm M)) H locs) : W p l e { frames := 2, cells := 0, slots := 0, locals := 55 } s m args below meth c H locs 0 0 Q (F0 m 0 ls []) := by
  obtain ⟨hx, hb, -, -, hown, hts, -⟩ := id cx
  have hown : s.vm.findClass RX8 = some m.cls := hown
  unfold f_X8_multiply at h
  refine lv_aload_n hx hb dX8_multiply_0 rfl (lv_at hl 0 rfl) ?_
  refine m_get (k := 36) (C := RX8) (T := TX8) (N := 18) (ref := "LiftFactorsModel") (v := .ref (adr 42)) hx hb hi hts inX8_u hown hw (by decide) rfl 8 (by decide) q_1 rfl rfl dX8_multiply_1 ?_
  refine lv_iload_n hx hb dX8_multiply_4 rfl (lv_at hl 1 rfl) ?_
  replace h := bnd h
  obtain ⟨v1, e1, h⟩ := h
  refine o_iald hx hb hi hw e1 dX8_multiply_5 ?_
  replace h := bnd h
  obtain ⟨v5, j31, h⟩ := h
  have kj : ∀ (ls : Array Slot) (H : Heap) (locs : List Loc), lv_has ls 10 [(0, .ref (adr 36)), (1, .int (Int32.ofInt a0)), (2, .int (Int32.ofInt a1)), (3, .int (Int32.ofInt a2)), (4, .int (Int32.ofInt a3))] → wH G A s.heap s (LL adr) (wf G adr (tm M)) H locs → W p l e { frames := 2, cells := 0, slots := 0, locals := 55 } s m args below meth c H locs 0 0 Q (F0 m 35 ls [.int (Int32.ofInt v5)]) := by
    intro ls H locs hl hw
    refine lv_istore (lv' := [(5, .int (Int32.ofInt v5)), (0, .ref (adr 36)), (1, .int (Int32.ofInt a0)), (2, .int (Int32.ofInt a1)), (3, .int (Int32.ofInt a2)), (4, .int (Int32.ofInt a3))]) hx hb dX8_multiply_35 hl (by decide) rfl (fun ls hl => ?_)
    refine lv_iconst (v := Int32.ofInt (0)) hx hb dX8_multiply_37 rfl ?_
    refine lv_istore (lv' := [(6, .int (Int32.ofInt (0))), (5, .int (Int32.ofInt v5)), (0, .ref (adr 36)), (1, .int (Int32.ofInt a0)), (2, .int (Int32.ofInt a1)), (3, .int (Int32.ofInt a2)), (4, .int (Int32.ofInt a3))]) hx hb dX8_multiply_38 hl (by decide) rfl (fun ls hl => ?_)
    replace h := bnd h
    obtain ⟨M10, j9, h⟩ := h
    refine lp_W (Wst := fun (st : MI × Int) => ∀ (ls : Array Slot) (H : Heap) (locs : List Loc), lv_has ls 10 [(0, .ref (adr 36)), (1, .int (Int32.ofInt a0)), (2, .int (Int32.ofInt a1)), (3, .int (Int32.ofInt a2)), (4, .int (Int32.ofInt a3)), (5, .int (Int32.ofInt v5)), (6, .int (Int32.ofInt st.2))] → wH G A s.heap s (LL adr) (wf G adr (tm st.1)) H locs → W p l e { frames := 2, cells := 0, slots := 0, locals := 55 } s m args below meth c H locs 0 0 Q (F0 m 40 ls [])) (fin := fun (r : MI) => ∀ (ls : Array Slot) (H : Heap) (locs : List Loc), lv_has ls 10 [(0, .ref (adr 36)), (1, .int (Int32.ofInt a0)), (2, .int (Int32.ofInt a1)), (3, .int (Int32.ofInt a2)), (4, .int (Int32.ofInt a3)), (5, .int (Int32.ofInt v5))] → wH G A s.heap s (LL adr) (wf G adr (tm r)) H locs → W p l e { frames := 2, cells := 0, slots := 0, locals := 55 } s m args below meth c H locs 0 0 Q (F0 m 65 ls [])) ?_ n _ _ j9 ?_ _ _ _ (lv_sub hl [2, 3, 4, 5, 6, 1, 0] rfl) hw
    · clear h j9 hw hl
      intro ⟨M6, v7⟩ x h k1 k2 ls H locs hl hw
      (try dsimp only at k1 k2 hl hw ⊢)
      unfold l_X8_multiply_40 at h
      (try dsimp only at h)
      refine lv_iload hx hb dX8_multiply_40 (lv_at hl 6 rfl) ?_
      refine lv_iload hx hb dX8_multiply_42 (lv_at hl 5 rfl) ?_
      replace h := bnd h
      obtain ⟨_, hg, h⟩ := h
      refine o_icmp_gt (tgt := 65) hx hb hg dX8_multiply_44 (by decide) (fun hc => ?_) (fun hc => ?_)
      · replace h := ite_t hc h
        cases h
        exact k1 _ rfl _ _ _ (lv_sub hl [0, 1, 2, 3, 4, 5] rfl) hw
      · replace h := ite_f hc h
        refine lv_aload_n hx hb dX8_multiply_47 rfl (lv_at hl 0 rfl) ?_
        refine m_get (k := 36) (C := RX8) (T := TX8) (N := 18) (ref := "LiftFactorsModel") (v := .ref (adr 41)) hx hb hi hts inX8_u hown hw (by decide) rfl 7 (by decide) q_0 rfl rfl dX8_multiply_48 ?_
        refine lv_sipush (v := Int32.ofInt (192)) hx hb dX8_multiply_51 rfl ?_
        refine lv_iload hx hb dX8_multiply_54 (lv_at hl 6 rfl) ?_
        refine o_iadd hx hb dX8_multiply_56 ?_
        refine lv_lconst (v := Int64.ofInt (0)) hx hb dX8_multiply_57 (by decide) ?_
        replace h := bnd h
        obtain ⟨v8, e8, h⟩ := h
        refine o_last hx hb hi hw e8 dX8_multiply_58 (fun H locs hw => ?_)
        refine lv_iinc (v := Int32.ofInt (v7 + 1)) (lv' := [(6, .int (Int32.ofInt (v7 + 1))), (0, .ref (adr 36)), (1, .int (Int32.ofInt a0)), (2, .int (Int32.ofInt a1)), (3, .int (Int32.ofInt a2)), (4, .int (Int32.ofInt a3)), (5, .int (Int32.ofInt v5))]) hx hb dX8_multiply_59 hl (k := 6) rfl (inc_o _ _) (by decide) rfl (fun ls hl => ?_)
        refine lv_goto (tgt := 40) hx hb dX8_multiply_62 (by decide) ?_
        cases h
        exact k2 _ rfl _ _ _ (lv_sub hl [1, 2, 3, 4, 5, 6, 0] rfl) hw
    · clear hw hl
      intro ls H locs hl hw
      (try dsimp only at hl hw ⊢)
      refine lv_iconst (v := Int32.ofInt (0)) hx hb dX8_multiply_65 rfl ?_
      refine lv_istore (lv' := [(6, .int (Int32.ofInt (0))), (0, .ref (adr 36)), (1, .int (Int32.ofInt a0)), (2, .int (Int32.ofInt a1)), (3, .int (Int32.ofInt a2)), (4, .int (Int32.ofInt a3)), (5, .int (Int32.ofInt v5))]) hx hb dX8_multiply_66 hl (by decide) rfl (fun ls hl => ?_)
      replace h := bnd h
      obtain ⟨M27, j26, h⟩ := h
      refine lp_W (Wst := fun (st : MI × Int) => ∀ (ls : Array Slot) (H : Heap) (locs : List Loc), lv_has ls 10 [(0, .ref (adr 36)), (1, .int (Int32.ofInt a0)), (2, .int (Int32.ofInt a1)), (3, .int (Int32.ofInt a2)), (4, .int (Int32.ofInt a3)), (5, .int (Int32.ofInt v5)), (6, .int (Int32.ofInt st.2))] → wH G A s.heap s (LL adr) (wf G adr (tm st.1)) H locs → W p l e { frames := 2, cells := 0, slots := 0, locals := 55 } s m args below meth c H locs 0 0 Q (F0 m 68 ls [])) (fin := fun (r : MI) => ∀ (ls : Array Slot) (H : Heap) (locs : List Loc), lv_has ls 10 [(0, .ref (adr 36)), (3, .int (Int32.ofInt a2)), (4, .int (Int32.ofInt a3)), (5, .int (Int32.ofInt v5))] → wH G A s.heap s (LL adr) (wf G adr (tm r)) H locs → W p l e { frames := 2, cells := 0, slots := 0, locals := 55 } s m args below meth c H locs 0 0 Q (F0 m 191 ls [])) ?_ n _ _ j26 ?_ _ _ _ (lv_sub hl [1, 2, 3, 4, 5, 6, 0] rfl) hw
      · clear h j26 hw hl
        intro ⟨M11, v12⟩ x h k1 k2 ls H locs hl hw
        (try dsimp only at k1 k2 hl hw ⊢)
        unfold l_X8_multiply_68 at h
        (try dsimp only at h)
        refine lv_iload hx hb dX8_multiply_68 (lv_at hl 6 rfl) ?_
        refine lv_aload_n hx hb dX8_multiply_70 rfl (lv_at hl 0 rfl) ?_
        refine m_get (k := 36) (C := RX8) (T := TX8) (N := 18) (ref := "LiftFactorsModel") (v := .ref (adr 42)) hx hb hi hts inX8_u hown hw (by decide) rfl 8 (by decide) q_1 rfl rfl dX8_multiply_71 ?_
        refine lv_iload_n hx hb dX8_multiply_74 rfl (lv_at hl 1 rfl) ?_
        replace h := bnd h
        obtain ⟨v13, e13, h⟩ := h
        refine o_iald hx hb hi hw e13 dX8_multiply_75 ?_
        replace h := bnd h
        obtain ⟨_, hg, h⟩ := h
        refine o_icmp_gt (tgt := 191) hx hb hg dX8_multiply_76 (by decide) (fun hc => ?_) (fun hc => ?_)
        · replace h := ite_t hc h
          cases h
          exact k1 _ rfl _ _ _ (lv_sub hl [0, 3, 4, 5] rfl) hw
        · replace h := ite_f hc h
          refine lv_iload hx hb dX8_multiply_79 (lv_at hl 5 rfl) ?_
          replace h := bnd h
          obtain ⟨_, hg, h⟩ := h
          refine o_if_lt (tgt := 191) hx hb hg dX8_multiply_81 (by decide) (fun hc => ?_) (fun hc => ?_)
          · replace h := ite_t hc h
            cases h
            exact k1 _ rfl _ _ _ (lv_sub hl [0, 3, 4, 5] rfl) hw
          · replace h := ite_f hc h
            refine lv_iconst (v := Int32.ofInt (0)) hx hb dX8_multiply_84 rfl ?_
            refine lv_istore (lv' := [(7, .int (Int32.ofInt (0))), (0, .ref (adr 36)), (1, .int (Int32.ofInt a0)), (2, .int (Int32.ofInt a1)), (3, .int (Int32.ofInt a2)), (4, .int (Int32.ofInt a3)), (5, .int (Int32.ofInt v5)), (6, .int (Int32.ofInt v12))]) hx hb dX8_multiply_85 hl (by decide) rfl (fun ls hl => ?_)
            replace h := bnd h
            obtain ⟨M25, j24, h⟩ := h
            refine lp_W (Wst := fun (st : MI × Int) => ∀ (ls : Array Slot) (H : Heap) (locs : List Loc), lv_has ls 10 [(0, .ref (adr 36)), (1, .int (Int32.ofInt a0)), (2, .int (Int32.ofInt a1)), (3, .int (Int32.ofInt a2)), (4, .int (Int32.ofInt a3)), (5, .int (Int32.ofInt v5)), (6, .int (Int32.ofInt v12)), (7, .int (Int32.ofInt st.2))] → wH G A s.heap s (LL adr) (wf G adr (tm st.1)) H locs → W p l e { frames := 2, cells := 0, slots := 0, locals := 55 } s m args below meth c H locs 0 0 Q (F0 m 87 ls [])) (fin := fun (r : MI) => ∀ (ls : Array Slot) (H : Heap) (locs : List Loc), lv_has ls 10 [(0, .ref (adr 36)), (1, .int (Int32.ofInt a0)), (2, .int (Int32.ofInt a1)), (3, .int (Int32.ofInt a2)), (4, .int (Int32.ofInt a3)), (5, .int (Int32.ofInt v5)), (6, .int (Int32.ofInt v12))] → wH G A s.heap s (LL adr) (wf G adr (tm r)) H locs → W p l e { frames := 2, cells := 0, slots := 0, locals := 55 } s m args below meth c H locs 0 0 Q (F0 m 185 ls [])) ?_ n _ _ j24 ?_ _ _ _ (lv_sub hl [1, 2, 3, 4, 5, 6, 7, 0] rfl) hw
            · clear h j24 hw hl
              intro ⟨M14, v15⟩ x h k1 k2 ls H locs hl hw
              (try dsimp only at k1 k2 hl hw ⊢)
              unfold l_X8_multiply_87 at h
              (try dsimp only at h)
              refine lv_iload hx hb dX8_multiply_87 (lv_at hl 7 rfl) ?_
              refine lv_aload_n hx hb dX8_multiply_89 rfl (lv_at hl 0 rfl) ?_
              refine m_get (k := 36) (C := RX8) (T := TX8) (N := 18) (ref := "LiftFactorsModel") (v := .ref (adr 42)) hx hb hi hts inX8_u hown hw (by decide) rfl 8 (by decide) q_1 rfl rfl dX8_multiply_90 ?_
              refine lv_iload_n hx hb dX8_multiply_93 rfl (lv_at hl 2 rfl) ?_
              replace h := bnd h
              obtain ⟨v16, e16, h⟩ := h
              refine o_iald hx hb hi hw e16 dX8_multiply_94 ?_
              replace h := bnd h
              obtain ⟨_, hg, h⟩ := h
              refine o_icmp_gt (tgt := 185) hx hb hg dX8_multiply_95 (by decide) (fun hc => ?_) (fun hc => ?_)
              · replace h := ite_t hc h
                cases h
                exact k1 _ rfl _ _ _ (lv_sub hl [0, 1, 2, 3, 4, 5, 6] rfl) hw
              · replace h := ite_f hc h
                refine lv_aload_n hx hb dX8_multiply_98 rfl (lv_at hl 0 rfl) ?_
                refine m_get (k := 36) (C := RX8) (T := TX8) (N := 18) (ref := "LiftFactorsModel") (v := .ref (adr 41)) hx hb hi hts inX8_u hown hw (by decide) rfl 7 (by decide) q_0 rfl rfl dX8_multiply_99 ?_
                refine lv_sipush (v := Int32.ofInt (192)) hx hb dX8_multiply_102 rfl ?_
                refine lv_iload hx hb dX8_multiply_105 (lv_at hl 6 rfl) ?_
                refine o_iadd hx hb dX8_multiply_107 ?_
                refine lv_iload hx hb dX8_multiply_108 (lv_at hl 7 rfl) ?_
                refine o_iadd hx hb dX8_multiply_110 ?_
                replace h := bnd h
                obtain ⟨v17, e17, h⟩ := h
                refine o_lald hx hb hi hw e17 dX8_multiply_111 ?_
                refine lv_aload_n hx hb dX8_multiply_112 rfl (lv_at hl 0 rfl) ?_
                refine lv_aload_n hx hb dX8_multiply_113 rfl (lv_at hl 0 rfl) ?_
                refine m_get (k := 36) (C := RX8) (T := TX8) (N := 18) (ref := "LiftFactorsModel") (v := .ref (adr 41)) hx hb hi hts inX8_u hown hw (by decide) rfl 7 (by decide) q_0 rfl rfl dX8_multiply_114 ?_
                refine lv_bipush (v := Int32.ofInt (24)) hx hb dX8_multiply_117 rfl ?_
                refine lv_iload_n hx hb dX8_multiply_119 rfl (lv_at hl 1 rfl) ?_
                refine o_imul hx hb dX8_multiply_120 ?_
                refine lv_iload hx hb dX8_multiply_121 (lv_at hl 6 rfl) ?_
                refine o_iadd hx hb dX8_multiply_123 ?_
                replace h := bnd h
                obtain ⟨v18, e18, h⟩ := h
                refine o_lald hx hb hi hw e18 dX8_multiply_124 ?_
                refine lv_aload_n hx hb dX8_multiply_125 rfl (lv_at hl 0 rfl) ?_
                refine m_get (k := 36) (C := RX8) (T := TX8) (N := 18) (ref := "LiftFactorsModel") (v := .ref (adr 41)) hx hb hi hts inX8_u hown hw (by decide) rfl 7 (by decide) q_0 rfl rfl dX8_multiply_126 ?_
                refine lv_bipush (v := Int32.ofInt (24)) hx hb dX8_multiply_129 rfl ?_
                refine lv_iload_n hx hb dX8_multiply_131 rfl (lv_at hl 2 rfl) ?_
                refine o_imul hx hb dX8_multiply_132 ?_
                refine lv_iload hx hb dX8_multiply_133 (lv_at hl 7 rfl) ?_
                refine o_iadd hx hb dX8_multiply_135 ?_
                replace h := bnd h
                obtain ⟨v19, e19, h⟩ := h
                refine o_lald hx hb hi hw e19 dX8_multiply_136 ?_
                replace h := bnd h
                obtain ⟨v20, e20, h⟩ := h
                refine m_callVl (k := 36) (As := [.long (Int64.ofInt v18), .long (Int64.ofInt v19)]) (rest := [.long (Int64.ofInt v17)]) cx.fix hi hw (cc_X8_product (l := l) (G := G) (sz := H.size) hi e20) (by decide) rfl rfl (w_cV 2 hts q_31 q_32 q_33 q_34 q_35 rfl rfl (by decide) (by decide)) hl.1 rfl (lv_room (Nat.le_of_ble_eq_true rfl)) dX8_multiply_137 (fun H locs hw => ?_)
                refine o_ladd hx hb dX8_multiply_140 ?_
                refine lv_lstore (lv' := [(8, .long (Int64.ofInt (v17 + v20))), (0, .ref (adr 36)), (1, .int (Int32.ofInt a0)), (2, .int (Int32.ofInt a1)), (3, .int (Int32.ofInt a2)), (4, .int (Int32.ofInt a3)), (5, .int (Int32.ofInt v5)), (6, .int (Int32.ofInt v12)), (7, .int (Int32.ofInt v15))]) hx hb dX8_multiply_141 hl (by decide) rfl (fun ls hl => ?_)
                refine lv_aload_n hx hb dX8_multiply_143 rfl (lv_at hl 1 rfl) ?_
                refine m_get (k := 36) (C := RX8) (T := TX8) (N := 18) (ref := "LiftFactorsModel") (v := .ref (adr 41)) hx hb hi hts inX8_u hown hw (by decide) rfl 7 (by decide) q_0 rfl rfl dX8_multiply_144 ?_
                refine lv_sipush (v := Int32.ofInt (192)) hx hb dX8_multiply_147 rfl ?_
                refine lv_iload hx hb dX8_multiply_150 (lv_at hl 7 rfl) ?_
                refine o_iadd hx hb dX8_multiply_152 ?_
                refine lv_iload hx hb dX8_multiply_153 (lv_at hl 8 rfl) ?_
                refine o_iadd hx hb dX8_multiply_155 ?_
                refine lv_lload hx hb dX8_multiply_156 (lv_at hl 0 rfl) ?_
                refine lv_aload_n hx hb dX8_multiply_158 rfl (lv_at hl 1 rfl) ?_
                refine m_get (k := 36) (C := RX8) (T := TX8) (N := 18) (ref := "LiftFactorsModel") (v := .long (Int64.ofInt (M14.1 36 9))) hx hb hi hts inX8_u hown hw (by decide) rfl 9 (by decide) q_29 rfl rfl dX8_multiply_159 ?_
                replace h := bnd h
                obtain ⟨v21, j23, h⟩ := h
                have kj : ∀ (ls : Array Slot) (H : Heap) (locs : List Loc), lv_has ls 10 [(0, .ref (adr 36)), (1, .int (Int32.ofInt a0)), (2, .int (Int32.ofInt a1)), (3, .int (Int32.ofInt a2)), (4, .int (Int32.ofInt a3)), (5, .int (Int32.ofInt v5)), (6, .int (Int32.ofInt v12)), (7, .int (Int32.ofInt v15))] → wH G A s.heap s (LL adr) (wf G adr (tm M14)) H locs → W p l e { frames := 2, cells := 0, slots := 0, locals := 55 } s m args below meth c H locs 0 0 Q (F0 m 178 ls [.long (Int64.ofInt v21), .int (Int32.ofInt (((192) + v12) + v15)), .ref (adr 41)]) := by
                  intro ls H locs hl hw
                  replace h := bnd h
                  obtain ⟨v22, e22, h⟩ := h
                  refine o_last hx hb hi hw e22 dX8_multiply_178 (fun H locs hw => ?_)
                  refine lv_iinc (v := Int32.ofInt (v15 + 1)) (lv' := [(7, .int (Int32.ofInt (v15 + 1))), (0, .ref (adr 36)), (1, .int (Int32.ofInt a0)), (2, .int (Int32.ofInt a1)), (3, .int (Int32.ofInt a2)), (4, .int (Int32.ofInt a3)), (5, .int (Int32.ofInt v5)), (6, .int (Int32.ofInt v12))]) hx hb dX8_multiply_179 hl (k := 7) rfl (inc_o _ _) (by decide) rfl (fun ls hl => ?_)
                  refine lv_goto (tgt := 87) hx hb dX8_multiply_182 (by decide) ?_
                  cases h
                  exact k2 _ rfl _ _ _ (lv_sub hl [1, 2, 3, 4, 5, 6, 7, 0] rfl) hw
                clear h
                replace h := j23
                clear j23
                replace h := bnd h
                obtain ⟨_, hg, h⟩ := h
                refine o_lcmp_lt (tgt := 176) hx hb hg dX8_multiply_162 dX8_multiply_163 (by decide) (fun hc => ?_) (fun hc => ?_)
                · replace h := ite_t hc h
                  refine lv_lload hx hb dX8_multiply_176 (lv_at hl 0 rfl) ?_
                  cases h
                  exact kj _ _ _ (lv_sub hl [1, 2, 3, 4, 5, 6, 7, 8] rfl) hw
                · replace h := ite_f hc h
                  refine lv_lload hx hb dX8_multiply_166 (lv_at hl 0 rfl) ?_
                  refine lv_aload_n hx hb dX8_multiply_168 rfl (lv_at hl 1 rfl) ?_
                  refine m_get (k := 36) (C := RX8) (T := TX8) (N := 18) (ref := "LiftFactorsModel") (v := .long (Int64.ofInt (M14.1 36 9))) hx hb hi hts inX8_u hown hw (by decide) rfl 9 (by decide) q_29 rfl rfl dX8_multiply_169 ?_
                  refine o_lsub hx hb dX8_multiply_172 ?_
                  refine lv_goto (tgt := 178) hx hb dX8_multiply_173 (by decide) ?_
                  cases h
                  exact kj _ _ _ (lv_sub hl [1, 2, 3, 4, 5, 6, 7, 8] rfl) hw
            · clear hw hl
              intro ls H locs hl hw
              (try dsimp only at hl hw ⊢)
              refine lv_iinc (v := Int32.ofInt (v12 + 1)) (lv' := [(6, .int (Int32.ofInt (v12 + 1))), (0, .ref (adr 36)), (1, .int (Int32.ofInt a0)), (2, .int (Int32.ofInt a1)), (3, .int (Int32.ofInt a2)), (4, .int (Int32.ofInt a3)), (5, .int (Int32.ofInt v5))]) hx hb dX8_multiply_185 hl (k := 6) rfl (inc_o _ _) (by decide) rfl (fun ls hl => ?_)
              refine lv_goto (tgt := 68) hx hb dX8_multiply_188 (by decide) ?_
              cases h
              exact k2 _ rfl _ _ _ (lv_sub hl [1, 2, 3, 4, 5, 6, 0] rfl) hw
      · clear hw hl
        intro ls H locs hl hw
        (try dsimp only at hl hw ⊢)
        refine lv_aload_n hx hb dX8_multiply_191 rfl (lv_at hl 0 rfl) ?_
        refine lv_bipush (v := Int32.ofInt (8)) hx hb dX8_multiply_192 rfl ?_
        refine lv_iload hx hb dX8_multiply_194 (lv_at hl 3 rfl) ?_
        replace h := bnd h
        obtain ⟨v28, e28, h⟩ := h
        refine m_callVv (k := 36) (As := [.int (Int32.ofInt (8)), .int (Int32.ofInt v5)]) (rest := []) cx.fix hi hw (cc_X8_trim (l := l) (G := G) (sz := H.size) hi e28) (by decide) rfl rfl (w_cV 2 hts q_11 q_12 q_13 q_14 q_15 rfl rfl (by decide) (by decide)) hl.1 rfl (lv_room (Nat.le_of_ble_eq_true rfl)) dX8_multiply_196 (fun H locs hw => ?_)
        refine lv_aload_n hx hb dX8_multiply_199 rfl (lv_at hl 0 rfl) ?_
        refine lv_bipush (v := Int32.ofInt (8)) hx hb dX8_multiply_200 rfl ?_
        refine lv_iload_n hx hb dX8_multiply_202 rfl (lv_at hl 1 rfl) ?_
        replace h := bnd h
        obtain ⟨v29, e29, h⟩ := h
        refine m_callVv (k := 36) (As := [.int (Int32.ofInt (8)), .int (Int32.ofInt a2)]) (rest := []) cx.fix hi hw (cc_X8_rest (l := l) (G := G) (sz := H.size) hi e29) (by decide) rfl rfl (w_cV 2 hts q_42 q_43 q_44 q_45 q_46 rfl rfl (by decide) (by decide)) hl.1 rfl (lv_room (Nat.le_of_ble_eq_true rfl)) dX8_multiply_203 (fun H locs hw => ?_)
        refine lv_aload_n hx hb dX8_multiply_206 rfl (lv_at hl 0 rfl) ?_
        refine lv_bipush (v := Int32.ofInt (8)) hx hb dX8_multiply_207 rfl ?_
        refine lv_iload hx hb dX8_multiply_209 (lv_at hl 2 rfl) ?_
        replace h := bnd h
        obtain ⟨v30, e30, h⟩ := h
        refine m_callVv (k := 36) (As := [.int (Int32.ofInt (8)), .int (Int32.ofInt a3)]) (rest := []) cx.fix hi hw (cc_X8_copy (l := l) (G := G) (sz := H.size) hi e30) (by decide) rfl rfl (w_cV 2 hts q_24 q_25 q_26 q_27 q_28 rfl rfl (by decide) (by decide)) hl.1 rfl (lv_room (Nat.le_of_ble_eq_true rfl)) dX8_multiply_211 (fun H locs hw => ?_)
        cases h
        exact kr _ _ _ _ dX8_multiply_214 hw
  clear h
  replace h := j31
  clear j31
  replace h := bnd h
  obtain ⟨_, hg, h⟩ := h
  refine o_if_lt (tgt := 18) hx hb hg dX8_multiply_6 (by decide) (fun hc => ?_) (fun hc => ?_)
  · replace h := ite_t hc h
    refine lv_iconst (v := Int32.ofInt (-1)) hx hb dX8_multiply_18 rfl ?_
    refine lv_goto (tgt := 35) hx hb dX8_multiply_19 (by decide) ?_
    cases h
    exact kj _ _ _ (lv_sub hl [0, 1, 2, 3, 4] rfl) hw
  · replace h := ite_f hc h
    refine lv_aload_n hx hb dX8_multiply_9 rfl (lv_at hl 0 rfl) ?_
    refine m_get (k := 36) (C := RX8) (T := TX8) (N := 18) (ref := "LiftFactorsModel") (v := .ref (adr 42)) hx hb hi hts inX8_u hown hw (by decide) rfl 8 (by decide) q_1 rfl rfl dX8_multiply_10 ?_
    refine lv_iload_n hx hb dX8_multiply_13 rfl (lv_at hl 2 rfl) ?_
    replace h := bnd h
    obtain ⟨v2, e2, h⟩ := h
    refine o_iald hx hb hi hw e2 dX8_multiply_14 ?_
    replace h := bnd h
    obtain ⟨_, hg, h⟩ := h
    refine o_if_ge (tgt := 22) hx hb hg dX8_multiply_15 (by decide) (fun hc => ?_) (fun hc => ?_)
    · replace h := ite_t hc h
      refine lv_aload_n hx hb dX8_multiply_22 rfl (lv_at hl 0 rfl) ?_
      refine m_get (k := 36) (C := RX8) (T := TX8) (N := 18) (ref := "LiftFactorsModel") (v := .ref (adr 42)) hx hb hi hts inX8_u hown hw (by decide) rfl 8 (by decide) q_1 rfl rfl dX8_multiply_23 ?_
      refine lv_iload_n hx hb dX8_multiply_26 rfl (lv_at hl 1 rfl) ?_
      replace h := bnd h
      obtain ⟨v3, e3, h⟩ := h
      refine o_iald hx hb hi hw e3 dX8_multiply_27 ?_
      refine lv_aload_n hx hb dX8_multiply_28 rfl (lv_at hl 0 rfl) ?_
      refine m_get (k := 36) (C := RX8) (T := TX8) (N := 18) (ref := "LiftFactorsModel") (v := .ref (adr 42)) hx hb hi hts inX8_u hown hw (by decide) rfl 8 (by decide) q_1 rfl rfl dX8_multiply_29 ?_
      refine lv_iload_n hx hb dX8_multiply_32 rfl (lv_at hl 2 rfl) ?_
      replace h := bnd h
      obtain ⟨v4, e4, h⟩ := h
      refine o_iald hx hb hi hw e4 dX8_multiply_33 ?_
      refine o_iadd hx hb dX8_multiply_34 ?_
      cases h
      exact kj _ _ _ (lv_sub hl [0, 1, 2, 3, 4] rfl) hw
    · replace h := ite_f hc h
      refine lv_iconst (v := Int32.ofInt (-1)) hx hb dX8_multiply_18 rfl ?_
      refine lv_goto (tgt := 35) hx hb dX8_multiply_19 (by decide) ?_
      cases h
      exact kj _ _ _ (lv_sub hl [0, 1, 2, 3, 4] rfl) hw
theorem cc_X8_multiply {l : Launch} {G : gG} {adr : Nat → Nat} {sz : Nat} (hi : adi adr) {n : Nat} {a0 : Int} {a1 : Int} {a2 : Int} {a3 : Int} {M M' : MI} (h : f_X8_multiply n a0 a1 a2 a3 M = some M') : mV l yX8_multiply cX8_multiply 10 none { frames := 2, cells := 0, slots := 0, locals := 55 } G adr [.ref (adr 36), .int (Int32.ofInt a0), .int (Int32.ofInt a1), .int (Int32.ofInt a2), .int (Int32.ofInt a3)] (tm M) sz (tm M') := by
  refine wEnter (by decide) (Nat.le_of_ble_eq_true rfl) ?_
  intro p e s m below meth c ls cx hinit hl hsz hw
  exact b_X8_multiply cx hi h (fun pc ls H locs hd hw => w_vret (post := fun (u : Mem) => u = tm M') (lf := fun u => (LL adr, wf G adr u)) cx.1 cx.2.1 cx.2.2.1 cx.2.2.2.2.2.2 (tm M') hw rfl hd) hl hw
theorem q_47 : Cond.methodLink RX8 92 yX8_constant ∈ uU := uU_in (by decide +kernel) (by decide +kernel)
theorem q_48 : Cond.instanceMethod yX8_constant ∈ uU := uU_in (by decide +kernel) (by decide +kernel)
theorem q_49 : Cond.selects yX8_constant.cls yX8_constant yX8_constant ∈ uU := uU_in (by decide +kernel) (by decide +kernel)
theorem q_50 : Cond.initialized yX8_constant.cls ∈ uU := uU_in (by decide +kernel) (by decide +kernel)
theorem q_51 : Cond.code yX8_constant cX8_constant 4 none ∈ uU := uU_in (by decide +kernel) (by decide +kernel)
theorem q_52 : Cond.methodLink RX8 96 yX8_multiply ∈ uU := uU_in (by decide +kernel) (by decide +kernel)
theorem q_53 : Cond.instanceMethod yX8_multiply ∈ uU := uU_in (by decide +kernel) (by decide +kernel)
theorem q_54 : Cond.selects yX8_multiply.cls yX8_multiply yX8_multiply ∈ uU := uU_in (by decide +kernel) (by decide +kernel)
theorem q_55 : Cond.initialized yX8_multiply.cls ∈ uU := uU_in (by decide +kernel) (by decide +kernel)
theorem q_56 : Cond.code yX8_multiply cX8_multiply 10 none ∈ uU := uU_in (by decide +kernel) (by decide +kernel)
def l_X8_raise_39 (n : Nat) (a2 : Int) (a3 : Int) : MI × Int → Option ((MI) ⊕ (MI × Int)) := fun (M6, v7) =>
  Option.bind (gJ v7 (0)) fun _ =>
  if v7 ≤ (0) then
    some (.inl M6)
  else
    Option.bind (
      Option.bind (gJ (oandJ v7 (1)) (1)) fun _ =>
      if (oandJ v7 (1)) = (1) then
        Option.bind (f_X8_multiply n a3 (9) a2 a3 M6) fun v8 =>
        some v8
      else
        some M6) fun M9 =>
    Option.bind (
      Option.bind (gJ v7 (1)) fun _ =>
      if v7 ≤ (1) then
        some M9
      else
        Option.bind (f_X8_multiply n (9) (9) a2 (9) M9) fun v10 =>
        some v10) fun M11 =>
    some (.inr (M11, oshrJ v7 (1)))
def f_X8_raise (n : Nat) (a0 : Int) (a1 : Int) (a2 : Int) (a3 : Int) (M : MI) : Option MI :=
  Option.bind (f_X8_copy n a0 (9) M) fun v1 =>
  Option.bind (f_X8_rest n (9) a2 v1) fun v2 =>
  Option.bind (odI v2 42 a2) fun v3 =>
  Option.bind (
    Option.bind (gI v3 0) fun _ =>
    if v3 = 0 then
      some (0)
    else
      some (1)) fun v4 =>
  Option.bind (f_X8_constant a3 v4 v2) fun v5 =>
  Option.bind (lpF (l_X8_raise_39 n a2 a3) n (v5, a1)) fun M15 =>
  some M15
set_option maxRecDepth 100000 in
set_option maxHeartbeats 8000000 in
theorem b_X8_raise {p : Program} {l : Launch} {e : Env} {s : State} {m : MethodId} {args : Array Value} {below : List Frame} {meth : Method} {c : Code} {Q : State → Prop} {G : gG} {A : Nat → Prop} {adr : Nat → Nat} (cx : cX p s m args meth c cX8_raise none 8 yX8_raise.cls) (hi : adi adr) {n : Nat} {a0 : Int} {a1 : Int} {a2 : Int} {a3 : Int} {M M' : MI} 
    (h : f_X8_raise n a0 a1 a2 a3 M = some M')
    (kr : ∀ (pc : Nat) (ls : Array Slot) (H : Heap) (locs : List Loc), decode cX8_raise pc = .ok (.return_, 1) → wH G A s.heap s (LL adr) (wf G adr (tm M')) H locs → W p l e { frames := 3, cells := 0, slots := 0, locals := 84 } s m args below meth c H locs 0 0 Q (F0 m pc ls []))
    {ls : Array Slot} {H : Heap} {locs : List Loc} (hl : lv_has ls 8 [(0, .ref (adr 36)), (1, .int (Int32.ofInt a0)), (2, .long (Int64.ofInt a1)), (4, .int (Int32.ofInt a2)), (5, .int (Int32.ofInt a3))]) (hw : wH G A s.heap s (LL adr) (wf G adr (tm M)) H locs) : W p l e { frames := 3, cells := 0, slots := 0, locals := 84 } s m args below meth c H locs 0 0 Q (F0 m 0 ls []) := by
  obtain ⟨hx, hb, -, -, hown, hts, -⟩ := id cx
  have hown : s.vm.findClass RX8 = some m.cls := hown
  unfold f_X8_raise at h
  refine lv_aload_n hx hb dX8_raise_0 rfl (lv_at hl 0 rfl) ?_
  refine lv_iload_n hx hb dX8_raise_1 rfl (lv_at hl 1 rfl) ?_
  refine lv_bipush (v := Int32.ofInt (9)) hx hb dX8_raise_2 rfl ?_
  replace h := bnd h
  obtain ⟨v1, e1, h⟩ := h
  refine m_callVv (k := 36) (As := [.int (Int32.ofInt a0), .int (Int32.ofInt (9))]) (rest := []) cx.fix hi hw (cc_X8_copy (l := l) (G := G) (sz := H.size) hi e1) (by decide) rfl rfl (w_cV 2 hts q_24 q_25 q_26 q_27 q_28 rfl rfl (by decide) (by decide)) hl.1 rfl (lv_room (Nat.le_of_ble_eq_true rfl)) dX8_raise_4 (fun H locs hw => ?_)
  refine lv_aload_n hx hb dX8_raise_7 rfl (lv_at hl 0 rfl) ?_
  refine lv_bipush (v := Int32.ofInt (9)) hx hb dX8_raise_8 rfl ?_
  refine lv_iload hx hb dX8_raise_10 (lv_at hl 3 rfl) ?_
  replace h := bnd h
  obtain ⟨v2, e2, h⟩ := h
  refine m_callVv (k := 36) (As := [.int (Int32.ofInt (9)), .int (Int32.ofInt a2)]) (rest := []) cx.fix hi hw (cc_X8_rest (l := l) (G := G) (sz := H.size) hi e2) (by decide) rfl rfl (w_cV 2 hts q_42 q_43 q_44 q_45 q_46 rfl rfl (by decide) (by decide)) hl.1 rfl (lv_room (Nat.le_of_ble_eq_true rfl)) dX8_raise_12 (fun H locs hw => ?_)
  refine lv_aload_n hx hb dX8_raise_15 rfl (lv_at hl 0 rfl) ?_
  refine lv_iload hx hb dX8_raise_16 (lv_at hl 4 rfl) ?_
  refine lv_aload_n hx hb dX8_raise_18 rfl (lv_at hl 0 rfl) ?_
  refine m_get (k := 36) (C := RX8) (T := TX8) (N := 18) (ref := "LiftFactorsModel") (v := .ref (adr 42)) hx hb hi hts inX8_u hown hw (by decide) rfl 8 (by decide) q_1 rfl rfl dX8_raise_19 ?_
  refine lv_iload hx hb dX8_raise_22 (lv_at hl 3 rfl) ?_
  replace h := bnd h
  obtain ⟨v3, e3, h⟩ := h
  refine o_iald hx hb hi hw e3 dX8_raise_24 ?_
  replace h := bnd h
  obtain ⟨v4, j16, h⟩ := h
  have kj : ∀ (ls : Array Slot) (H : Heap) (locs : List Loc), lv_has ls 8 [(0, .ref (adr 36)), (2, .long (Int64.ofInt a1)), (4, .int (Int32.ofInt a2)), (5, .int (Int32.ofInt a3))] → wH G A s.heap s (LL adr) (wf G adr (tm v2)) H locs → W p l e { frames := 3, cells := 0, slots := 0, locals := 84 } s m args below meth c H locs 0 0 Q (F0 m 33 ls [.long (Int64.ofInt v4), .int (Int32.ofInt a3), .ref (adr 36)]) := by
    intro ls H locs hl hw
    replace h := bnd h
    obtain ⟨v5, e5, h⟩ := h
    refine m_callVv (k := 36) (As := [.int (Int32.ofInt a3), .long (Int64.ofInt v4)]) (rest := []) cx.fix hi hw (cc_X8_constant (l := l) (G := G) (sz := H.size) hi e5) (by decide) rfl rfl (w_cV 2 hts q_47 q_48 q_49 q_50 q_51 rfl rfl (by decide) (by decide)) hl.1 rfl (lv_room (Nat.le_of_ble_eq_true rfl)) dX8_raise_33 (fun H locs hw => ?_)
    refine lv_lload_n hx hb dX8_raise_36 rfl (lv_at hl 1 rfl) ?_
    refine lv_lstore (lv' := [(6, .long (Int64.ofInt a1)), (0, .ref (adr 36)), (2, .long (Int64.ofInt a1)), (4, .int (Int32.ofInt a2)), (5, .int (Int32.ofInt a3))]) hx hb dX8_raise_37 hl (by decide) rfl (fun ls hl => ?_)
    replace h := bnd h
    obtain ⟨M15, j14, h⟩ := h
    refine lp_W (Wst := fun (st : MI × Int) => ∀ (ls : Array Slot) (H : Heap) (locs : List Loc), lv_has ls 8 [(0, .ref (adr 36)), (4, .int (Int32.ofInt a2)), (5, .int (Int32.ofInt a3)), (6, .long (Int64.ofInt st.2))] → wH G A s.heap s (LL adr) (wf G adr (tm st.1)) H locs → W p l e { frames := 3, cells := 0, slots := 0, locals := 84 } s m args below meth c H locs 0 0 Q (F0 m 39 ls [])) (fin := fun (r : MI) => ∀ (ls : Array Slot) (H : Heap) (locs : List Loc), lv_has ls 8 [] → wH G A s.heap s (LL adr) (wf G adr (tm r)) H locs → W p l e { frames := 3, cells := 0, slots := 0, locals := 84 } s m args below meth c H locs 0 0 Q (F0 m 95 ls [])) ?_ n _ _ j14 ?_ _ _ _ (lv_sub hl [1, 3, 4, 0] rfl) hw
    · clear h j14 hw hl
      intro ⟨M6, v7⟩ x h k1 k2 ls H locs hl hw
      (try dsimp only at k1 k2 hl hw ⊢)
      unfold l_X8_raise_39 at h
      (try dsimp only at h)
      refine lv_lload hx hb dX8_raise_39 (lv_at hl 3 rfl) ?_
      refine lv_lconst (v := Int64.ofInt (0)) hx hb dX8_raise_41 (by decide) ?_
      replace h := bnd h
      obtain ⟨_, hg, h⟩ := h
      refine o_lcmp_le (tgt := 95) hx hb hg dX8_raise_42 dX8_raise_43 (by decide) (fun hc => ?_) (fun hc => ?_)
      · replace h := ite_t hc h
        cases h
        exact k1 _ rfl _ _ _ (lv_sub hl [] rfl) hw
      · replace h := ite_f hc h
        refine lv_lload hx hb dX8_raise_46 (lv_at hl 3 rfl) ?_
        refine lv_lconst (v := Int64.ofInt (1)) hx hb dX8_raise_48 (by decide) ?_
        refine o_land hx hb dX8_raise_49 ?_
        refine lv_lconst (v := Int64.ofInt (1)) hx hb dX8_raise_50 (by decide) ?_
        replace h := bnd h
        obtain ⟨M9, j13, h⟩ := h
        have kj : ∀ (ls : Array Slot) (H : Heap) (locs : List Loc), lv_has ls 8 [(0, .ref (adr 36)), (4, .int (Int32.ofInt a2)), (5, .int (Int32.ofInt a3)), (6, .long (Int64.ofInt v7))] → wH G A s.heap s (LL adr) (wf G adr (tm M9)) H locs → W p l e { frames := 3, cells := 0, slots := 0, locals := 84 } s m args below meth c H locs 0 0 Q (F0 m 67 ls []) := by
          intro ls H locs hl hw
          refine lv_lload hx hb dX8_raise_67 (lv_at hl 3 rfl) ?_
          refine lv_lconst (v := Int64.ofInt (1)) hx hb dX8_raise_69 (by decide) ?_
          replace h := bnd h
          obtain ⟨M11, j12, h⟩ := h
          have kj : ∀ (ls : Array Slot) (H : Heap) (locs : List Loc), lv_has ls 8 [(0, .ref (adr 36)), (4, .int (Int32.ofInt a2)), (5, .int (Int32.ofInt a3)), (6, .long (Int64.ofInt v7))] → wH G A s.heap s (LL adr) (wf G adr (tm M11)) H locs → W p l e { frames := 3, cells := 0, slots := 0, locals := 84 } s m args below meth c H locs 0 0 Q (F0 m 86 ls []) := by
            intro ls H locs hl hw
            refine lv_lload hx hb dX8_raise_86 (lv_at hl 3 rfl) ?_
            refine lv_iconst (v := Int32.ofInt (1)) hx hb dX8_raise_88 rfl ?_
            refine o_lshr hx hb dX8_raise_89 ?_
            refine lv_lstore (lv' := [(6, .long (Int64.ofInt (oshrJ v7 (1)))), (0, .ref (adr 36)), (4, .int (Int32.ofInt a2)), (5, .int (Int32.ofInt a3))]) hx hb dX8_raise_90 hl (by decide) rfl (fun ls hl => ?_)
            refine lv_goto (tgt := 39) hx hb dX8_raise_92 (by decide) ?_
            cases h
            exact k2 _ rfl _ _ _ (lv_sub hl [1, 2, 3, 0] rfl) hw
          clear h
          replace h := j12
          clear j12
          replace h := bnd h
          obtain ⟨_, hg, h⟩ := h
          refine o_lcmp_le (tgt := 86) hx hb hg dX8_raise_70 dX8_raise_71 (by decide) (fun hc => ?_) (fun hc => ?_)
          · replace h := ite_t hc h
            cases h
            exact kj _ _ _ (lv_sub hl [0, 1, 2, 3] rfl) hw
          · replace h := ite_f hc h
            refine lv_aload_n hx hb dX8_raise_74 rfl (lv_at hl 0 rfl) ?_
            refine lv_bipush (v := Int32.ofInt (9)) hx hb dX8_raise_75 rfl ?_
            refine lv_bipush (v := Int32.ofInt (9)) hx hb dX8_raise_77 rfl ?_
            refine lv_iload hx hb dX8_raise_79 (lv_at hl 1 rfl) ?_
            refine lv_bipush (v := Int32.ofInt (9)) hx hb dX8_raise_81 rfl ?_
            replace h := bnd h
            obtain ⟨v10, e10, h⟩ := h
            refine m_callVv (k := 36) (As := [.int (Int32.ofInt (9)), .int (Int32.ofInt (9)), .int (Int32.ofInt a2), .int (Int32.ofInt (9))]) (rest := []) cx.fix hi hw (cc_X8_multiply (l := l) (G := G) (sz := H.size) hi e10) (by decide) rfl rfl (w_cV 4 hts q_52 q_53 q_54 q_55 q_56 rfl rfl (by decide) (by decide)) hl.1 rfl (lv_room (Nat.le_of_ble_eq_true rfl)) dX8_raise_83 (fun H locs hw => ?_)
            cases h
            exact kj _ _ _ (lv_sub hl [0, 1, 2, 3] rfl) hw
        clear h
        replace h := j13
        clear j13
        replace h := bnd h
        obtain ⟨_, hg, h⟩ := h
        refine o_lcmp_ne (tgt := 67) hx hb hg dX8_raise_51 dX8_raise_52 (by decide) (fun hc => ?_) (fun hc => ?_)
        · replace h := ite_f hc h
          cases h
          exact kj _ _ _ (lv_sub hl [0, 1, 2, 3] rfl) hw
        · replace h := ite_t hc h
          refine lv_aload_n hx hb dX8_raise_55 rfl (lv_at hl 0 rfl) ?_
          refine lv_iload hx hb dX8_raise_56 (lv_at hl 2 rfl) ?_
          refine lv_bipush (v := Int32.ofInt (9)) hx hb dX8_raise_58 rfl ?_
          refine lv_iload hx hb dX8_raise_60 (lv_at hl 1 rfl) ?_
          refine lv_iload hx hb dX8_raise_62 (lv_at hl 2 rfl) ?_
          replace h := bnd h
          obtain ⟨v8, e8, h⟩ := h
          refine m_callVv (k := 36) (As := [.int (Int32.ofInt a3), .int (Int32.ofInt (9)), .int (Int32.ofInt a2), .int (Int32.ofInt a3)]) (rest := []) cx.fix hi hw (cc_X8_multiply (l := l) (G := G) (sz := H.size) hi e8) (by decide) rfl rfl (w_cV 4 hts q_52 q_53 q_54 q_55 q_56 rfl rfl (by decide) (by decide)) hl.1 rfl (lv_room (Nat.le_of_ble_eq_true rfl)) dX8_raise_64 (fun H locs hw => ?_)
          cases h
          exact kj _ _ _ (lv_sub hl [0, 1, 2, 3] rfl) hw
    · clear hw hl
      intro ls H locs hl hw
      (try dsimp only at hl hw ⊢)
      cases h
      exact kr _ _ _ _ dX8_raise_95 hw
  clear h
  replace h := j16
  clear j16
  replace h := bnd h
  obtain ⟨_, hg, h⟩ := h
  refine o_if_ne (tgt := 32) hx hb hg dX8_raise_25 (by decide) (fun hc => ?_) (fun hc => ?_)
  · replace h := ite_f hc h
    refine lv_lconst (v := Int64.ofInt (1)) hx hb dX8_raise_32 (by decide) ?_
    cases h
    exact kj _ _ _ (lv_sub hl [0, 2, 3, 4] rfl) hw
  · replace h := ite_t hc h
    refine lv_lconst (v := Int64.ofInt (0)) hx hb dX8_raise_28 (by decide) ?_
    refine lv_goto (tgt := 33) hx hb dX8_raise_29 (by decide) ?_
    cases h
    exact kj _ _ _ (lv_sub hl [0, 2, 3, 4] rfl) hw
theorem cc_X8_raise {l : Launch} {G : gG} {adr : Nat → Nat} {sz : Nat} (hi : adi adr) {n : Nat} {a0 : Int} {a1 : Int} {a2 : Int} {a3 : Int} {M M' : MI} (h : f_X8_raise n a0 a1 a2 a3 M = some M') : mV l yX8_raise cX8_raise 8 none { frames := 3, cells := 0, slots := 0, locals := 84 } G adr [.ref (adr 36), .int (Int32.ofInt a0), .long (Int64.ofInt a1), .int (Int32.ofInt a2), .int (Int32.ofInt a3)] (tm M) sz (tm M') := by
  refine wEnter (by decide) (Nat.le_of_ble_eq_true rfl) ?_
  intro p e s m below meth c ls cx hinit hl hsz hw
  exact b_X8_raise cx hi h (fun pc ls H locs hd hw => w_vret (post := fun (u : Mem) => u = tm M') (lf := fun u => (LL adr, wf G adr u)) cx.1 cx.2.1 cx.2.2.1 cx.2.2.2.2.2.2 (tm M') hw rfl hd) hl hw
theorem q_57 : Cond.methodLink RX8 100 yX8_monic ∈ uU := uU_in (by decide +kernel) (by decide +kernel)
theorem q_58 : Cond.instanceMethod yX8_monic ∈ uU := uU_in (by decide +kernel) (by decide +kernel)
theorem q_59 : Cond.selects yX8_monic.cls yX8_monic yX8_monic ∈ uU := uU_in (by decide +kernel) (by decide +kernel)
theorem q_60 : Cond.initialized yX8_monic.cls ∈ uU := uU_in (by decide +kernel) (by decide +kernel)
theorem q_61 : Cond.code yX8_monic cX8_monic 5 none ∈ uU := uU_in (by decide +kernel) (by decide +kernel)
def l_X8_commonRow_6 (n : Nat) : MI × Int × Int → Option ((MI × Int) ⊕ (MI × Int × Int)) := fun (M1, v2, v3) =>
  Option.bind (odI M1 42 v3) fun v4 =>
  Option.bind (gI v4 0) fun _ =>
  if v4 < 0 then
    some (.inl (M1, v2))
  else
    Option.bind (f_X8_monic n v3 M1) fun v5 =>
    Option.bind (f_X8_rest n v2 v3 v5) fun v6 =>
    some (.inr (v6, v3, v2))
def f_X8_commonRow (n : Nat) (a0 : Int) (a1 : Int) (a2 : Int) (M : MI) : Option MI :=
  Option.bind (lpF (l_X8_commonRow_6 n) n (M, a0, a1)) fun (M8, v9) =>
  Option.bind (f_X8_monic n v9 M8) fun v10 =>
  Option.bind (f_X8_copy n v9 a2 v10) fun v11 =>
  some v11
set_option maxRecDepth 100000 in
set_option maxHeartbeats 8000000 in
theorem b_X8_commonRow {p : Program} {l : Launch} {e : Env} {s : State} {m : MethodId} {args : Array Value} {below : List Frame} {meth : Method} {c : Code} {Q : State → Prop} {G : gG} {A : Nat → Prop} {adr : Nat → Nat} (cx : cX p s m args meth c cX8_commonRow none 7 yX8_commonRow.cls) (hi : adi adr) {n : Nat} {a0 : Int} {a1 : Int} {a2 : Int} {M M' : MI} 
    (h : f_X8_commonRow n a0 a1 a2 M = some M')
    (kr : ∀ (pc : Nat) (ls : Array Slot) (H : Heap) (locs : List Loc), decode cX8_commonRow pc = .ok (.return_, 1) → wH G A s.heap s (LL adr) (wf G adr (tm M')) H locs → W p l e { frames := 3, cells := 0, slots := 0, locals := 80 } s m args below meth c H locs 0 0 Q (F0 m pc ls []))
    {ls : Array Slot} {H : Heap} {locs : List Loc} (hl : lv_has ls 7 [(0, .ref (adr 36)), (1, .int (Int32.ofInt a0)), (2, .int (Int32.ofInt a1)), (3, .int (Int32.ofInt a2))]) (hw : wH G A s.heap s (LL adr) (wf G adr (tm M)) H locs) : W p l e { frames := 3, cells := 0, slots := 0, locals := 80 } s m args below meth c H locs 0 0 Q (F0 m 0 ls []) := by
  obtain ⟨hx, hb, -, -, hown, hts, -⟩ := id cx
  have hown : s.vm.findClass RX8 = some m.cls := hown
  unfold f_X8_commonRow at h
  refine lv_iload_n hx hb dX8_commonRow_0 rfl (lv_at hl 1 rfl) ?_
  refine lv_istore (lv' := [(4, .int (Int32.ofInt a0)), (0, .ref (adr 36)), (1, .int (Int32.ofInt a0)), (2, .int (Int32.ofInt a1)), (3, .int (Int32.ofInt a2))]) hx hb dX8_commonRow_1 hl (by decide) rfl (fun ls hl => ?_)
  refine lv_iload_n hx hb dX8_commonRow_3 rfl (lv_at hl 3 rfl) ?_
  refine lv_istore (lv' := [(5, .int (Int32.ofInt a1)), (4, .int (Int32.ofInt a0)), (0, .ref (adr 36)), (1, .int (Int32.ofInt a0)), (2, .int (Int32.ofInt a1)), (3, .int (Int32.ofInt a2))]) hx hb dX8_commonRow_4 hl (by decide) rfl (fun ls hl => ?_)
  replace h := bnd h
  obtain ⟨⟨M8, v9⟩, j7, h⟩ := h
  refine lp_W (Wst := fun (st : MI × Int × Int) => ∀ (ls : Array Slot) (H : Heap) (locs : List Loc), lv_has ls 7 [(0, .ref (adr 36)), (3, .int (Int32.ofInt a2)), (4, .int (Int32.ofInt st.2.1)), (5, .int (Int32.ofInt st.2.2))] → wH G A s.heap s (LL adr) (wf G adr (tm st.1)) H locs → W p l e { frames := 3, cells := 0, slots := 0, locals := 80 } s m args below meth c H locs 0 0 Q (F0 m 6 ls [])) (fin := fun (r : MI × Int) => ∀ (ls : Array Slot) (H : Heap) (locs : List Loc), lv_has ls 7 [(0, .ref (adr 36)), (3, .int (Int32.ofInt a2)), (4, .int (Int32.ofInt r.2))] → wH G A s.heap s (LL adr) (wf G adr (tm r.1)) H locs → W p l e { frames := 3, cells := 0, slots := 0, locals := 80 } s m args below meth c H locs 0 0 Q (F0 m 45 ls [])) ?_ n _ _ j7 ?_ _ _ _ (lv_sub hl [2, 5, 1, 0] rfl) hw
  · clear h j7 hw hl
    intro ⟨M1, v2, v3⟩ x h k1 k2 ls H locs hl hw
    (try dsimp only at k1 k2 hl hw ⊢)
    unfold l_X8_commonRow_6 at h
    (try dsimp only at h)
    refine lv_aload_n hx hb dX8_commonRow_6 rfl (lv_at hl 0 rfl) ?_
    refine m_get (k := 36) (C := RX8) (T := TX8) (N := 18) (ref := "LiftFactorsModel") (v := .ref (adr 42)) hx hb hi hts inX8_u hown hw (by decide) rfl 8 (by decide) q_1 rfl rfl dX8_commonRow_7 ?_
    refine lv_iload hx hb dX8_commonRow_10 (lv_at hl 3 rfl) ?_
    replace h := bnd h
    obtain ⟨v4, e4, h⟩ := h
    refine o_iald hx hb hi hw e4 dX8_commonRow_12 ?_
    replace h := bnd h
    obtain ⟨_, hg, h⟩ := h
    refine o_if_lt (tgt := 45) hx hb hg dX8_commonRow_13 (by decide) (fun hc => ?_) (fun hc => ?_)
    · replace h := ite_t hc h
      cases h
      exact k1 _ rfl _ _ _ (lv_sub hl [0, 1, 2] rfl) hw
    · replace h := ite_f hc h
      refine lv_aload_n hx hb dX8_commonRow_16 rfl (lv_at hl 0 rfl) ?_
      refine lv_iload hx hb dX8_commonRow_17 (lv_at hl 3 rfl) ?_
      replace h := bnd h
      obtain ⟨v5, e5, h⟩ := h
      refine m_callVv (k := 36) (As := [.int (Int32.ofInt v3)]) (rest := []) cx.fix hi hw (cc_X8_monic (l := l) (G := G) (sz := H.size) hi e5) (by decide) rfl rfl (w_cV 1 hts q_57 q_58 q_59 q_60 q_61 rfl rfl (by decide) (by decide)) hl.1 rfl (lv_room (Nat.le_of_ble_eq_true rfl)) dX8_commonRow_19 (fun H locs hw => ?_)
      refine lv_aload_n hx hb dX8_commonRow_22 rfl (lv_at hl 0 rfl) ?_
      refine lv_iload hx hb dX8_commonRow_23 (lv_at hl 2 rfl) ?_
      refine lv_iload hx hb dX8_commonRow_25 (lv_at hl 3 rfl) ?_
      replace h := bnd h
      obtain ⟨v6, e6, h⟩ := h
      refine m_callVv (k := 36) (As := [.int (Int32.ofInt v2), .int (Int32.ofInt v3)]) (rest := []) cx.fix hi hw (cc_X8_rest (l := l) (G := G) (sz := H.size) hi e6) (by decide) rfl rfl (w_cV 2 hts q_42 q_43 q_44 q_45 q_46 rfl rfl (by decide) (by decide)) hl.1 rfl (lv_room (Nat.le_of_ble_eq_true rfl)) dX8_commonRow_27 (fun H locs hw => ?_)
      refine lv_iload hx hb dX8_commonRow_30 (lv_at hl 2 rfl) ?_
      refine lv_istore (lv' := [(6, .int (Int32.ofInt v2)), (0, .ref (adr 36)), (3, .int (Int32.ofInt a2)), (4, .int (Int32.ofInt v2)), (5, .int (Int32.ofInt v3))]) hx hb dX8_commonRow_32 hl (by decide) rfl (fun ls hl => ?_)
      refine lv_iload hx hb dX8_commonRow_34 (lv_at hl 4 rfl) ?_
      refine lv_istore (lv' := [(4, .int (Int32.ofInt v3)), (6, .int (Int32.ofInt v2)), (0, .ref (adr 36)), (3, .int (Int32.ofInt a2)), (5, .int (Int32.ofInt v3))]) hx hb dX8_commonRow_36 hl (by decide) rfl (fun ls hl => ?_)
      refine lv_iload hx hb dX8_commonRow_38 (lv_at hl 1 rfl) ?_
      refine lv_istore (lv' := [(5, .int (Int32.ofInt v2)), (4, .int (Int32.ofInt v3)), (6, .int (Int32.ofInt v2)), (0, .ref (adr 36)), (3, .int (Int32.ofInt a2))]) hx hb dX8_commonRow_40 hl (by decide) rfl (fun ls hl => ?_)
      refine lv_goto (tgt := 6) hx hb dX8_commonRow_42 (by decide) ?_
      cases h
      exact k2 _ rfl _ _ _ (lv_sub hl [3, 4, 1, 0] rfl) hw
  · clear hw hl
    intro ls H locs hl hw
    (try dsimp only at hl hw ⊢)
    refine lv_aload_n hx hb dX8_commonRow_45 rfl (lv_at hl 0 rfl) ?_
    refine lv_iload hx hb dX8_commonRow_46 (lv_at hl 2 rfl) ?_
    replace h := bnd h
    obtain ⟨v10, e10, h⟩ := h
    refine m_callVv (k := 36) (As := [.int (Int32.ofInt v9)]) (rest := []) cx.fix hi hw (cc_X8_monic (l := l) (G := G) (sz := H.size) hi e10) (by decide) rfl rfl (w_cV 1 hts q_57 q_58 q_59 q_60 q_61 rfl rfl (by decide) (by decide)) hl.1 rfl (lv_room (Nat.le_of_ble_eq_true rfl)) dX8_commonRow_48 (fun H locs hw => ?_)
    refine lv_aload_n hx hb dX8_commonRow_51 rfl (lv_at hl 0 rfl) ?_
    refine lv_iload hx hb dX8_commonRow_52 (lv_at hl 2 rfl) ?_
    refine lv_iload_n hx hb dX8_commonRow_54 rfl (lv_at hl 1 rfl) ?_
    replace h := bnd h
    obtain ⟨v11, e11, h⟩ := h
    refine m_callVv (k := 36) (As := [.int (Int32.ofInt v9), .int (Int32.ofInt a2)]) (rest := []) cx.fix hi hw (cc_X8_copy (l := l) (G := G) (sz := H.size) hi e11) (by decide) rfl rfl (w_cV 2 hts q_24 q_25 q_26 q_27 q_28 rfl rfl (by decide) (by decide)) hl.1 rfl (lv_room (Nat.le_of_ble_eq_true rfl)) dX8_commonRow_55 (fun H locs hw => ?_)
    cases h
    exact kr _ _ _ _ dX8_commonRow_58 hw
theorem cc_X8_commonRow {l : Launch} {G : gG} {adr : Nat → Nat} {sz : Nat} (hi : adi adr) {n : Nat} {a0 : Int} {a1 : Int} {a2 : Int} {M M' : MI} (h : f_X8_commonRow n a0 a1 a2 M = some M') : mV l yX8_commonRow cX8_commonRow 7 none { frames := 3, cells := 0, slots := 0, locals := 80 } G adr [.ref (adr 36), .int (Int32.ofInt a0), .int (Int32.ofInt a1), .int (Int32.ofInt a2)] (tm M) sz (tm M') := by
  refine wEnter (by decide) (Nat.le_of_ble_eq_true rfl) ?_
  intro p e s m below meth c ls cx hinit hl hsz hw
  exact b_X8_commonRow cx hi h (fun pc ls H locs hd hw => w_vret (post := fun (u : Mem) => u = tm M') (lf := fun u => (LL adr, wf G adr u)) cx.1 cx.2.1 cx.2.2.1 cx.2.2.2.2.2.2 (tm M') hw rfl hd) hl hw
