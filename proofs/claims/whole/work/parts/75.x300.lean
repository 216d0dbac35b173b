theorem q_270 : Cond.constantLong RX3 9 (2) ∈ uU := uU_in (by decide +kernel) (by decide +kernel)
theorem q_271 : Cond.methodLink RX3 30 yJ9_max_f86c9 ∈ uU := uU_in (by decide +kernel) (by decide +kernel)
theorem q_272 : Cond.static yJ9_max_f86c9 ∈ uU := uU_in (by decide +kernel) (by decide +kernel)
theorem q_273 : Cond.initialized yJ9_max_f86c9.cls ∈ uU := uU_in (by decide +kernel) (by decide +kernel)
theorem q_274 : Cond.code yJ9_max_f86c9 cJ9_max_f86c9 4 (some .long) ∈ uU := uU_in (by decide +kernel) (by decide +kernel)
theorem q_275 : Cond.fieldLink RX3 11 "LiftFactors$Field" "prime" "J" ∈ uU := uU_in (by decide +kernel) (by decide +kernel)
def f_X3_choose (a0 : Int) (M : MI) : Option MI :=
  Option.bind (f_J9_max_f86c9 (2) a0) fun v1 =>
  Option.bind (opJ M 1 0 v1) fun v2 =>
  some v2
set_option maxRecDepth 100000 in
set_option maxHeartbeats 8000000 in
theorem b_X3_choose {p : Program} {l : Launch} {e : Env} {s : State} {m : MethodId} {args : Array Value} {below : List Frame} {meth : Method} {c : Code} {Q : State → Prop} {G : gG} {A : Nat → Prop} {adr : Nat → Nat} (cx : cX p s m args meth c cX3_choose none 3 yX3_choose.cls) (hi : adi adr) {a0 : Int} {M M' : MI} 
    (h : f_X3_choose a0 M = some M')
    (kr : ∀ (pc : Nat) (ls : Array Slot) (H : Heap) (locs : List Loc), decode cX3_choose pc = .ok (.return_, 1) → wH G A s.heap s (LL adr) (wf G adr (tm M')) H locs → W p l e { frames := 1, cells := 0, slots := 0, locals := 23 } s m args below meth c H locs 0 0 Q (F0 m pc ls []))
    {ls : Array Slot} {H : Heap} {locs : List Loc} (hl : lv_has ls 3 [(0, .ref (adr 1)), (1, .long (Int64.ofInt a0))]) (hw : wH G A s.heap s (LL adr) (wf G adr (tm M)) H locs) : W p l e { frames := 1, cells := 0, slots := 0, locals := 23 } s m args below meth c H locs 0 0 Q (F0 m 0 ls []) := by
  obtain ⟨hx, hb, -, -, hown, hts, -⟩ := id cx
  have hown : s.vm.findClass RX3 = some m.cls := hown
  unfold f_X3_choose at h
  refine lv_aload_n hx hb dX3_choose_0 rfl (lv_at hl 0 rfl) ?_
  refine lv_ldc2 (v := Int64.ofInt (2)) hx hb hown (hts _ q_270) dX3_choose_1 ?_
  refine lv_lload_n hx hb dX3_choose_4 rfl (lv_at hl 1 rfl) ?_
  replace h := bnd h
  obtain ⟨v1, e1, h⟩ := h
  refine m_callSl (As := [.long (Int64.ofInt (2)), .long (Int64.ofInt a0)]) (rest := [.ref (adr 1)]) cx.fix hw (cc_J9_max_f86c9 (l := l) (G := G) (sz := H.size) (M := M) hi e1) (w_cS 2 hts q_271 q_272 q_273 q_274 rfl rfl (by decide) (by decide)) hl.1 rfl (lv_room (Nat.le_of_ble_eq_true rfl)) dX3_choose_5 (fun H locs hw => ?_)
  replace h := bnd h
  obtain ⟨v2, e2, h⟩ := h
  refine o_putJ (k := 1) (C := RX3) (T := TX3) (N := 5) (ref := "LiftFactors$Field") hx hb hi hts inX3_u tyX3 tyX3_ok nmX3 hown hw (by decide) rfl 0 (by decide) q_275 rfl rfl e2 (by decide +kernel) rfl dX3_choose_8 (fun H locs hw => ?_)
  cases h
  exact kr _ _ _ _ dX3_choose_11 hw
theorem cc_X3_choose {l : Launch} {G : gG} {adr : Nat → Nat} {sz : Nat} (hi : adi adr) {a0 : Int} {M M' : MI} (h : f_X3_choose a0 M = some M') : mV l yX3_choose cX3_choose 3 none { frames := 1, cells := 0, slots := 0, locals := 23 } G adr [.ref (adr 1), .long (Int64.ofInt a0)] (tm M) sz (tm M') := by
  refine wEnter (by decide) (Nat.le_of_ble_eq_true rfl) ?_
  intro p e s m below meth c ls cx hinit hl hsz hw
  exact b_X3_choose cx hi h (fun pc ls H locs hd hw => w_vret (post := fun (u : Mem) => u = tm M') (lf := fun u => (LL adr, wf G adr u)) cx.1 cx.2.1 cx.2.2.1 cx.2.2.2.2.2.2 (tm M') hw rfl hd) hl hw
theorem q_276 : Cond.methodLink RX3 36 yJ9_floorMod_f86c9 ∈ uU := uU_in (by decide +kernel) (by decide +kernel)
theorem q_277 : Cond.static yJ9_floorMod_f86c9 ∈ uU := uU_in (by decide +kernel) (by decide +kernel)
theorem q_278 : Cond.initialized yJ9_floorMod_f86c9.cls ∈ uU := uU_in (by decide +kernel) (by decide +kernel)
theorem q_279 : Cond.code yJ9_floorMod_f86c9 cJ9_floorMod_f86c9 6 (some .long) ∈ uU := uU_in (by decide +kernel) (by decide +kernel)
def l_X3_reduce_2 (a0 : Nat) (a1 : Nat) : MI × Int → Option ((MI) ⊕ (MI × Int)) := fun (M1, v2) =>
  Option.bind (gI v2 (11)) fun _ =>
  if (11) ≤ v2 then
    some (.inl M1)
  else
    Option.bind (odJ M1 a0 v2) fun v3 =>
    Option.bind (f_J9_floorMod_f86c9 v3 (M1.1 1 0)) fun v4 =>
    Option.bind (osJ M1 a1 v2 v4) fun v5 =>
    some (.inr (v5, v2 + 1))
def f_X3_reduce (n : Nat) (a0 : Nat) (a1 : Nat) (M : MI) : Option MI :=
  Option.bind (lpF (l_X3_reduce_2 a0 a1) n (M, (0))) fun M7 =>
  some M7
set_option maxRecDepth 100000 in
set_option maxHeartbeats 8000000 in
theorem b_X3_reduce {p : Program} {l : Launch} {e : Env} {s : State} {m : MethodId} {args : Array Value} {below : List Frame} {meth : Method} {c : Code} {Q : State → Prop} {G : gG} {A : Nat → Prop} {adr : Nat → Nat} (cx : cX p s m args meth c cX3_reduce none 4 yX3_reduce.cls) (hi : adi adr) {n : Nat} {a0 : Nat} {a1 : Nat} {M M' : MI} 
    (h : f_X3_reduce n a0 a1 M = some M')
    (kr : ∀ (pc : Nat) (ls : Array Slot) (H : Heap) (locs : List Loc), decode cX3_reduce pc = .ok (.return_, 1) → wH G A s.heap s (LL adr) (wf G adr (tm M')) H locs → W p l e { frames := 1, cells := 0, slots := 0, locals := 25 } s m args below meth c H locs 0 0 Q (F0 m pc ls []))
    {ls : Array Slot} {H : Heap} {locs : List Loc} (hl : lv_has ls 4 [(0, .ref (adr 1)), (1, .ref (adr a0)), (2, .ref (adr a1))]) (hw : wH G A s.heap s (LL adr) (wf G adr (tm M)) H locs) : W p l e { frames := 1, cells := 0, slots := 0, locals := 25 } s m args below meth c H locs 0 0 Q (F0 m 0 ls []) := by
  obtain ⟨hx, hb, -, -, hown, hts, -⟩ := id cx
  have hown : s.vm.findClass RX3 = some m.cls := hown
  unfold f_X3_reduce at h
  refine lv_iconst (v := Int32.ofInt (0)) hx hb dX3_reduce_0 rfl ?_
  refine lv_istore_n (lv' := [(3, .int (Int32.ofInt (0))), (0, .ref (adr 1)), (1, .ref (adr a0)), (2, .ref (adr a1))]) hx hb dX3_reduce_1 rfl hl (by decide) rfl (fun ls hl => ?_)
  replace h := bnd h
  obtain ⟨M7, j6, h⟩ := h
  refine lp_W (Wst := fun (st : MI × Int) => ∀ (ls : Array Slot) (H : Heap) (locs : List Loc), lv_has ls 4 [(0, .ref (adr 1)), (1, .ref (adr a0)), (2, .ref (adr a1)), (3, .int (Int32.ofInt st.2))] → wH G A s.heap s (LL adr) (wf G adr (tm st.1)) H locs → W p l e { frames := 1, cells := 0, slots := 0, locals := 25 } s m args below meth c H locs 0 0 Q (F0 m 2 ls [])) (fin := fun (r : MI) => ∀ (ls : Array Slot) (H : Heap) (locs : List Loc), lv_has ls 4 [] → wH G A s.heap s (LL adr) (wf G adr (tm r)) H locs → W p l e { frames := 1, cells := 0, slots := 0, locals := 25 } s m args below meth c H locs 0 0 Q (F0 m 27 ls [])) ?_ n _ _ j6 ?_ _ _ _ (lv_sub hl [1, 2, 3, 0] rfl) hw
  · clear h j6 hw hl
    intro ⟨M1, v2⟩ x h k1 k2 ls H locs hl hw
    (try dsimp only at k1 k2 hl hw ⊢)
    unfold l_X3_reduce_2 at h
    (try dsimp only at h)
    refine lv_iload_n hx hb dX3_reduce_2 rfl (lv_at hl 3 rfl) ?_
    refine lv_bipush (v := Int32.ofInt (11)) hx hb dX3_reduce_3 rfl ?_
    replace h := bnd h
    obtain ⟨_, hg, h⟩ := h
    refine o_icmp_ge (tgt := 27) hx hb hg dX3_reduce_5 (by decide) (fun hc => ?_) (fun hc => ?_)
    · replace h := ite_t hc h
      cases h
      exact k1 _ rfl _ _ _ (lv_sub hl [] rfl) hw
    · replace h := ite_f hc h
      refine lv_aload_n hx hb dX3_reduce_8 rfl (lv_at hl 2 rfl) ?_
      refine lv_iload_n hx hb dX3_reduce_9 rfl (lv_at hl 3 rfl) ?_
      refine lv_aload_n hx hb dX3_reduce_10 rfl (lv_at hl 1 rfl) ?_
      refine lv_iload_n hx hb dX3_reduce_11 rfl (lv_at hl 3 rfl) ?_
      replace h := bnd h
      obtain ⟨v3, e3, h⟩ := h
      refine o_lald hx hb hi hw e3 dX3_reduce_12 ?_
      refine lv_aload_n hx hb dX3_reduce_13 rfl (lv_at hl 0 rfl) ?_
      refine m_get (k := 1) (C := RX3) (T := TX3) (N := 5) (ref := "LiftFactors$Field") (v := .long (Int64.ofInt (M1.1 1 0))) hx hb hi hts inX3_u hown hw (by decide) rfl 0 (by decide) q_275 rfl rfl dX3_reduce_14 ?_
      replace h := bnd h
      obtain ⟨v4, e4, h⟩ := h
      refine m_callSl (As := [.long (Int64.ofInt v3), .long (Int64.ofInt (M1.1 1 0))]) (rest := [.int (Int32.ofInt v2), .ref (adr a1)]) cx.fix hw (cc_J9_floorMod_f86c9 (l := l) (G := G) (sz := H.size) (M := M1) hi e4) (w_cS 2 hts q_276 q_277 q_278 q_279 rfl rfl (by decide) (by decide)) hl.1 rfl (lv_room (Nat.le_of_ble_eq_true rfl)) dX3_reduce_17 (fun H locs hw => ?_)
      replace h := bnd h
      obtain ⟨v5, e5, h⟩ := h
      refine o_last hx hb hi hw e5 dX3_reduce_20 (fun H locs hw => ?_)
      refine lv_iinc (v := Int32.ofInt (v2 + 1)) (lv' := [(3, .int (Int32.ofInt (v2 + 1))), (0, .ref (adr 1)), (1, .ref (adr a0)), (2, .ref (adr a1))]) hx hb dX3_reduce_21 hl (k := 3) rfl (inc_o _ _) (by decide) rfl (fun ls hl => ?_)
      refine lv_goto (tgt := 2) hx hb dX3_reduce_24 (by decide) ?_
      cases h
      exact k2 _ rfl _ _ _ (lv_sub hl [1, 2, 3, 0] rfl) hw
  · clear hw hl
    intro ls H locs hl hw
    (try dsimp only at hl hw ⊢)
    cases h
    exact kr _ _ _ _ dX3_reduce_27 hw
theorem cc_X3_reduce {l : Launch} {G : gG} {adr : Nat → Nat} {sz : Nat} (hi : adi adr) {n : Nat} {a0 : Nat} {a1 : Nat} {M M' : MI} (h : f_X3_reduce n a0 a1 M = some M') : mV l yX3_reduce cX3_reduce 4 none { frames := 1, cells := 0, slots := 0, locals := 25 } G adr [.ref (adr 1), .ref (adr a0), .ref (adr a1)] (tm M) sz (tm M') := by
  refine wEnter (by decide) (Nat.le_of_ble_eq_true rfl) ?_
  intro p e s m below meth c ls cx hinit hl hsz hw
  exact b_X3_reduce cx hi h (fun pc ls H locs hd hw => w_vret (post := fun (u : Mem) => u = tm M') (lf := fun u => (LL adr, wf G adr u)) cx.1 cx.2.1 cx.2.2.1 cx.2.2.2.2.2.2 (tm M') hw rfl hd) hl hw
def l_X3_inverse_20 (M : MI) : Int × Int × Int → Option ((Int) ⊕ (Int × Int × Int)) := fun (v2, v3, v4) =>
  Option.bind (gJ v4 (0)) fun _ =>
  if v4 ≤ (0) then
    some (.inl v3)
  else
    Option.bind (
      Option.bind (gJ (oandJ v4 (1)) (1)) fun _ =>
      if (oandJ v4 (1)) = (1) then
        Option.bind (orJ (v3 * v2) (M.1 1 0)) fun v5 =>
        some v5
      else
        some v3) fun v6 =>
    Option.bind (orJ (v2 * v2) (M.1 1 0)) fun v7 =>
    some (.inr (v7, v6, oshrJ v4 (1)))
def f_X3_inverse (n : Nat) (a0 : Int) (M : MI) : Option Int :=
  Option.bind (orJ a0 (M.1 1 0)) fun v1 =>
  Option.bind (lpF (l_X3_inverse_20 M) n (v1, (1), (M.1 1 0) - (2))) fun v10 =>
  some v10
set_option maxRecDepth 100000 in
set_option maxHeartbeats 8000000 in
theorem b_X3_inverse {p : Program} {l : Launch} {e : Env} {s : State} {m : MethodId} {args : Array Value} {below : List Frame} {meth : Method} {c : Code} {Q : State → Prop} {G : gG} {A : Nat → Prop} {adr : Nat → Nat} (cx : cX p s m args meth c cX3_inverse (some .long) 9 yX3_inverse.cls) (hi : adi adr) {n : Nat} {a0 : Int} {M : MI} {r : Int} 
    (h : f_X3_inverse n a0 M = some r)
    (kr : ∀ (pc : Nat) (ls : Array Slot) (H : Heap) (locs : List Loc), decode cX3_inverse pc = .ok (.lreturn, 1) → wH G A s.heap s (LL adr) (wf G adr (tm M)) H locs → W p l e { frames := 0, cells := 0, slots := 0, locals := 0 } s m args below meth c H locs 0 0 Q (F0 m pc ls [.long (Int64.ofInt r)]))
    {ls : Array Slot} {H : Heap} {locs : List Loc} (hl : lv_has ls 9 [(0, .ref (adr 1)), (1, .long (Int64.ofInt a0))]) (hw : wH G A s.heap s (LL adr) (wf G adr (tm M)) H locs) : W p l e { frames := 0, cells := 0, slots := 0, locals := 0 } s m args below meth c H locs 0 0 Q (F0 m 0 ls []) := by
  obtain ⟨hx, hb, -, -, hown, hts, -⟩ := id cx
  have hown : s.vm.findClass RX3 = some m.cls := hown
  unfold f_X3_inverse at h
  refine lv_lload_n hx hb dX3_inverse_0 rfl (lv_at hl 1 rfl) ?_
  refine lv_aload_n hx hb dX3_inverse_1 rfl (lv_at hl 0 rfl) ?_
  refine m_get (k := 1) (C := RX3) (T := TX3) (N := 5) (ref := "LiftFactors$Field") (v := .long (Int64.ofInt (M.1 1 0))) hx hb hi hts inX3_u hown hw (by decide) rfl 0 (by decide) q_275 rfl rfl dX3_inverse_2 ?_
  replace h := bnd h
  obtain ⟨v1, e1, h⟩ := h
  refine o_lrem hx hb e1 dX3_inverse_5 ?_
  refine lv_lstore_n (lv' := [(3, .long (Int64.ofInt v1)), (0, .ref (adr 1)), (1, .long (Int64.ofInt a0))]) hx hb dX3_inverse_6 rfl hl (by decide) rfl (fun ls hl => ?_)
  refine lv_lconst (v := Int64.ofInt (1)) hx hb dX3_inverse_7 (by decide) ?_
  refine lv_lstore (lv' := [(5, .long (Int64.ofInt (1))), (3, .long (Int64.ofInt v1)), (0, .ref (adr 1)), (1, .long (Int64.ofInt a0))]) hx hb dX3_inverse_8 hl (by decide) rfl (fun ls hl => ?_)
  refine lv_aload_n hx hb dX3_inverse_10 rfl (lv_at hl 2 rfl) ?_
  refine m_get (k := 1) (C := RX3) (T := TX3) (N := 5) (ref := "LiftFactors$Field") (v := .long (Int64.ofInt (M.1 1 0))) hx hb hi hts inX3_u hown hw (by decide) rfl 0 (by decide) q_275 rfl rfl dX3_inverse_11 ?_
  refine lv_ldc2 (v := Int64.ofInt (2)) hx hb hown (hts _ q_270) dX3_inverse_14 ?_
  refine o_lsub hx hb dX3_inverse_17 ?_
  refine lv_lstore (lv' := [(7, .long (Int64.ofInt ((M.1 1 0) - (2)))), (5, .long (Int64.ofInt (1))), (3, .long (Int64.ofInt v1)), (0, .ref (adr 1)), (1, .long (Int64.ofInt a0))]) hx hb dX3_inverse_18 hl (by decide) rfl (fun ls hl => ?_)
  replace h := bnd h
  obtain ⟨v10, j9, h⟩ := h
  refine lp_W (Wst := fun (st : Int × Int × Int) => ∀ (ls : Array Slot) (H : Heap) (locs : List Loc), lv_has ls 9 [(0, .ref (adr 1)), (3, .long (Int64.ofInt st.1)), (5, .long (Int64.ofInt st.2.1)), (7, .long (Int64.ofInt st.2.2))] → wH G A s.heap s (LL adr) (wf G adr (tm M)) H locs → W p l e { frames := 0, cells := 0, slots := 0, locals := 0 } s m args below meth c H locs 0 0 Q (F0 m 20 ls [])) (fin := fun (r : Int) => ∀ (ls : Array Slot) (H : Heap) (locs : List Loc), lv_has ls 9 [(5, .long (Int64.ofInt r))] → wH G A s.heap s (LL adr) (wf G adr (tm M)) H locs → W p l e { frames := 0, cells := 0, slots := 0, locals := 0 } s m args below meth c H locs 0 0 Q (F0 m 65 ls [])) ?_ n _ _ j9 ?_ _ _ _ (lv_sub hl [3, 2, 1, 0] rfl) hw
  · clear h j9 hw hl
    intro ⟨v2, v3, v4⟩ x h k1 k2 ls H locs hl hw
    (try dsimp only at k1 k2 hl hw ⊢)
    unfold l_X3_inverse_20 at h
    (try dsimp only at h)
    refine lv_lload hx hb dX3_inverse_20 (lv_at hl 3 rfl) ?_
    refine lv_lconst (v := Int64.ofInt (0)) hx hb dX3_inverse_22 (by decide) ?_
    replace h := bnd h
    obtain ⟨_, hg, h⟩ := h
    refine o_lcmp_le (tgt := 65) hx hb hg dX3_inverse_23 dX3_inverse_24 (by decide) (fun hc => ?_) (fun hc => ?_)
    · replace h := ite_t hc h
      cases h
      exact k1 _ rfl _ _ _ (lv_sub hl [2] rfl) hw
    · replace h := ite_f hc h
      refine lv_lload hx hb dX3_inverse_27 (lv_at hl 3 rfl) ?_
      refine lv_lconst (v := Int64.ofInt (1)) hx hb dX3_inverse_29 (by decide) ?_
      refine o_land hx hb dX3_inverse_30 ?_
      refine lv_lconst (v := Int64.ofInt (1)) hx hb dX3_inverse_31 (by decide) ?_
      replace h := bnd h
      obtain ⟨v6, j8, h⟩ := h
      have kj : ∀ (ls : Array Slot) (H : Heap) (locs : List Loc), lv_has ls 9 [(0, .ref (adr 1)), (3, .long (Int64.ofInt v2)), (5, .long (Int64.ofInt v6)), (7, .long (Int64.ofInt v4))] → wH G A s.heap s (LL adr) (wf G adr (tm M)) H locs → W p l e { frames := 0, cells := 0, slots := 0, locals := 0 } s m args below meth c H locs 0 0 Q (F0 m 47 ls []) := by
        intro ls H locs hl hw
        refine lv_lload_n hx hb dX3_inverse_47 rfl (lv_at hl 1 rfl) ?_
        refine lv_lload_n hx hb dX3_inverse_48 rfl (lv_at hl 1 rfl) ?_
        refine o_lmul hx hb dX3_inverse_49 ?_
        refine lv_aload_n hx hb dX3_inverse_50 rfl (lv_at hl 0 rfl) ?_
        refine m_get (k := 1) (C := RX3) (T := TX3) (N := 5) (ref := "LiftFactors$Field") (v := .long (Int64.ofInt (M.1 1 0))) hx hb hi hts inX3_u hown hw (by decide) rfl 0 (by decide) q_275 rfl rfl dX3_inverse_51 ?_
        replace h := bnd h
        obtain ⟨v7, e7, h⟩ := h
        refine o_lrem hx hb e7 dX3_inverse_54 ?_
        refine lv_lstore_n (lv' := [(3, .long (Int64.ofInt v7)), (0, .ref (adr 1)), (5, .long (Int64.ofInt v6)), (7, .long (Int64.ofInt v4))]) hx hb dX3_inverse_55 rfl hl (by decide) rfl (fun ls hl => ?_)
        refine lv_lload hx hb dX3_inverse_56 (lv_at hl 3 rfl) ?_
        refine lv_iconst (v := Int32.ofInt (1)) hx hb dX3_inverse_58 rfl ?_
        refine o_lshr hx hb dX3_inverse_59 ?_
        refine lv_lstore (lv' := [(7, .long (Int64.ofInt (oshrJ v4 (1)))), (3, .long (Int64.ofInt v7)), (0, .ref (adr 1)), (5, .long (Int64.ofInt v6))]) hx hb dX3_inverse_60 hl (by decide) rfl (fun ls hl => ?_)
        refine lv_goto (tgt := 20) hx hb dX3_inverse_62 (by decide) ?_
        cases h
        exact k2 _ rfl _ _ _ (lv_sub hl [2, 1, 3, 0] rfl) hw
      clear h
      replace h := j8
      clear j8
      replace h := bnd h
      obtain ⟨_, hg, h⟩ := h
      refine o_lcmp_ne (tgt := 47) hx hb hg dX3_inverse_32 dX3_inverse_33 (by decide) (fun hc => ?_) (fun hc => ?_)
      · replace h := ite_f hc h
        cases h
        exact kj _ _ _ (lv_sub hl [0, 1, 2, 3] rfl) hw
      · replace h := ite_t hc h
        refine lv_lload hx hb dX3_inverse_36 (lv_at hl 2 rfl) ?_
        refine lv_lload_n hx hb dX3_inverse_38 rfl (lv_at hl 1 rfl) ?_
        refine o_lmul hx hb dX3_inverse_39 ?_
        refine lv_aload_n hx hb dX3_inverse_40 rfl (lv_at hl 0 rfl) ?_
        refine m_get (k := 1) (C := RX3) (T := TX3) (N := 5) (ref := "LiftFactors$Field") (v := .long (Int64.ofInt (M.1 1 0))) hx hb hi hts inX3_u hown hw (by decide) rfl 0 (by decide) q_275 rfl rfl dX3_inverse_41 ?_
        replace h := bnd h
        obtain ⟨v5, e5, h⟩ := h
        refine o_lrem hx hb e5 dX3_inverse_44 ?_
        refine lv_lstore (lv' := [(5, .long (Int64.ofInt v5)), (0, .ref (adr 1)), (3, .long (Int64.ofInt v2)), (7, .long (Int64.ofInt v4))]) hx hb dX3_inverse_45 hl (by decide) rfl (fun ls hl => ?_)
        cases h
        exact kj _ _ _ (lv_sub hl [1, 2, 0, 3] rfl) hw
  · clear hw hl
    intro ls H locs hl hw
    (try dsimp only at hl hw ⊢)
    refine lv_lload hx hb dX3_inverse_65 (lv_at hl 0 rfl) ?_
    cases h
    exact kr _ _ _ _ dX3_inverse_67 hw
theorem cc_X3_inverse {l : Launch} {G : gG} {adr : Nat → Nat} {sz : Nat} (hi : adi adr) {n : Nat} {a0 : Int} {M : MI} {r : Int} (h : f_X3_inverse n a0 M = some r) : mL l yX3_inverse cX3_inverse 9 (some .long) { frames := 0, cells := 0, slots := 0, locals := 0 } G adr [.ref (adr 1), .long (Int64.ofInt a0)] (tm M) sz (Int64.ofInt r) (tm M) := by
  refine wEnter (by decide) (Nat.le_of_ble_eq_true rfl) ?_
  intro p e s m below meth c ls cx hinit hl hsz hw
  exact b_X3_inverse cx hi h (fun pc ls H locs hd hw => w_lret (post := fun (r9 : Int64) (u : Mem) => r9 = Int64.ofInt r ∧ u = tm M) (lf := fun u => (LL adr, wf G adr u)) cx.1 cx.2.1 cx.2.2.1 cx.2.2.2.2.2.2 (tm M) hw ⟨rfl, rfl⟩ hd) hl hw
theorem q_280 : Cond.methodLink RX3 39 yX3_reduce ∈ uU := uU_in (by decide +kernel) (by decide +kernel)
theorem q_281 : Cond.instanceMethod yX3_reduce ∈ uU := uU_in (by decide +kernel) (by decide +kernel)
theorem q_282 : Cond.selects yX3_reduce.cls yX3_reduce yX3_reduce ∈ uU := uU_in (by decide +kernel) (by decide +kernel)
theorem q_283 : Cond.initialized yX3_reduce.cls ∈ uU := uU_in (by decide +kernel) (by decide +kernel)
theorem q_284 : Cond.code yX3_reduce cX3_reduce 4 none ∈ uU := uU_in (by decide +kernel) (by decide +kernel)
theorem q_285 : Cond.methodLink RX3 43 yX5_degree ∈ uU := uU_in (by decide +kernel) (by decide +kernel)
theorem q_286 : Cond.methodLink RX3 49 yX3_inverse ∈ uU := uU_in (by decide +kernel) (by decide +kernel)
theorem q_287 : Cond.instanceMethod yX3_inverse ∈ uU := uU_in (by decide +kernel) (by decide +kernel)
theorem q_288 : Cond.selects yX3_inverse.cls yX3_inverse yX3_inverse ∈ uU := uU_in (by decide +kernel) (by decide +kernel)
theorem q_289 : Cond.initialized yX3_inverse.cls ∈ uU := uU_in (by decide +kernel) (by decide +kernel)
theorem q_290 : Cond.code yX3_inverse cX3_inverse 9 (some .long) ∈ uU := uU_in (by decide +kernel) (by decide +kernel)
def l_X3_makeMonic_36 (a1 : Nat) (v2 : Int) (v5 : Int) : MI × Int → Option ((MI) ⊕ (MI × Int)) := fun (M6, v7) =>
  Option.bind (gI v7 v2) fun _ =>
  if v2 < v7 then
    some (.inl M6)
  else
    Option.bind (odJ M6 a1 v7) fun v8 =>
    Option.bind (orJ (v8 * v5) (M6.1 1 0)) fun v9 =>
    Option.bind (osJ M6 a1 v7 v9) fun v10 =>
    some (.inr (v10, v7 + 1))
def f_X3_makeMonic (n : Nat) (a0 : Nat) (a1 : Nat) (M : MI) : Option MI :=
  Option.bind (f_X3_reduce n a0 a1 M) fun v1 =>
  Option.bind (f_X5_degree n a1 v1) fun v2 =>
  Option.bind (gI v2 0) fun _ =>
  if v2 < 0 then
    some v1
  else
    Option.bind (odJ v1 a1 v2) fun v3 =>
    Option.bind (gJ v3 (1)) fun _ =>
    if v3 = (1) then
      some v1
    else
      Option.bind (odJ v1 a1 v2) fun v4 =>
      Option.bind (f_X3_inverse n v4 v1) fun v5 =>
      Option.bind (lpF (l_X3_makeMonic_36 a1 v2 v5) n (v1, (0))) fun M12 =>
      some M12
set_option maxRecDepth 100000 in
set_option maxHeartbeats 8000000 in
theorem b_X3_makeMonic {p : Program} {l : Launch} {e : Env} {s : State} {m : MethodId} {args : Array Value} {below : List Frame} {meth : Method} {c : Code} {Q : State → Prop} {G : gG} {A : Nat → Prop} {adr : Nat → Nat} (cx : cX p s m args meth c cX3_makeMonic none 7 yX3_makeMonic.cls) (hi : adi adr) {n : Nat} {a0 : Nat} {a1 : Nat} {M M' : MI} 
    (h : f_X3_makeMonic n a0 a1 M = some M')
    (kr : ∀ (pc : Nat) (ls : Array Slot) (H : Heap) (locs : List Loc), decode cX3_makeMonic pc = .ok (.return_, 1) → wH G A s.heap s (LL adr) (wf G adr (tm M')) H locs → W p l e { frames := 2, cells := 0, slots := 0, locals := 48 } s m args below meth c H locs 0 0 Q (F0 m pc ls []))
    {ls : Array Slot} {H : Heap} {locs : List Loc} (hl : lv_has ls 7 [(0, .ref (adr 1)), (1, .ref (adr a0)), (2, .ref (adr a1))]) (hw : wH G A s.heap s (LL adr) (wf G adr (tm M)) H locs) : W p l e { frames := 2, cells := 0, slots := 0, locals := 48 } s m args below meth c H locs 0 0 Q (F0 m 0 ls []) := by
  obtain ⟨hx, hb, -, -, hown, hts, -⟩ := id cx
  have hown : s.vm.findClass RX3 = some m.cls := hown
  unfold f_X3_makeMonic at h
  refine lv_aload_n hx hb dX3_makeMonic_0 rfl (lv_at hl 0 rfl) ?_
  refine lv_aload_n hx hb dX3_makeMonic_1 rfl (lv_at hl 1 rfl) ?_
  refine lv_aload_n hx hb dX3_makeMonic_2 rfl (lv_at hl 2 rfl) ?_
  replace h := bnd h
  obtain ⟨v1, e1, h⟩ := h
  refine m_callVv (k := 1) (As := [.ref (adr a0), .ref (adr a1)]) (rest := []) cx.fix hi hw (cc_X3_reduce (l := l) (G := G) (sz := H.size) hi e1) (by decide) rfl rfl (w_cV 2 hts q_280 q_281 q_282 q_283 q_284 rfl rfl (by decide) (by decide)) hl.1 rfl (lv_room (Nat.le_of_ble_eq_true rfl)) dX3_makeMonic_3 (fun H locs hw => ?_)
  refine lv_aload_n hx hb dX3_makeMonic_6 rfl (lv_at hl 2 rfl) ?_
  replace h := bnd h
  obtain ⟨v2, e2, h⟩ := h
  refine m_callSi (As := [.ref (adr a1)]) (rest := []) cx.fix hw (cc_X5_degree (l := l) (G := G) (sz := H.size) hi e2) (w_cS 1 hts q_285 q_246 q_247 q_248 rfl rfl (by decide) (by decide)) hl.1 rfl (lv_room (Nat.le_of_ble_eq_true rfl)) dX3_makeMonic_7 (fun H locs hw => ?_)
  refine lv_istore_n (lv' := [(3, .int (Int32.ofInt v2)), (0, .ref (adr 1)), (1, .ref (adr a0)), (2, .ref (adr a1))]) hx hb dX3_makeMonic_10 rfl hl (by decide) rfl (fun ls hl => ?_)
  refine lv_iload_n hx hb dX3_makeMonic_11 rfl (lv_at hl 0 rfl) ?_
  replace h := bnd h
  obtain ⟨_, hg, h⟩ := h
  refine o_if_lt (tgt := 23) hx hb hg dX3_makeMonic_12 (by decide) (fun hc => ?_) (fun hc => ?_)
  · replace h := ite_t hc h
    cases h
    exact kr _ _ _ _ dX3_makeMonic_23 hw
  · replace h := ite_f hc h
    refine lv_aload_n hx hb dX3_makeMonic_15 rfl (lv_at hl 3 rfl) ?_
    refine lv_iload_n hx hb dX3_makeMonic_16 rfl (lv_at hl 0 rfl) ?_
    replace h := bnd h
    obtain ⟨v3, e3, h⟩ := h
    refine o_lald hx hb hi hw e3 dX3_makeMonic_17 ?_
    refine lv_lconst (v := Int64.ofInt (1)) hx hb dX3_makeMonic_18 (by decide) ?_
    replace h := bnd h
    obtain ⟨_, hg, h⟩ := h
    refine o_lcmp_ne (tgt := 24) hx hb hg dX3_makeMonic_19 dX3_makeMonic_20 (by decide) (fun hc => ?_) (fun hc => ?_)
    · replace h := ite_f hc h
      refine lv_aload_n hx hb dX3_makeMonic_24 rfl (lv_at hl 1 rfl) ?_
      refine lv_aload_n hx hb dX3_makeMonic_25 rfl (lv_at hl 3 rfl) ?_
      refine lv_iload_n hx hb dX3_makeMonic_26 rfl (lv_at hl 0 rfl) ?_
      replace h := bnd h
      obtain ⟨v4, e4, h⟩ := h
      refine o_lald hx hb hi hw e4 dX3_makeMonic_27 ?_
      replace h := bnd h
      obtain ⟨v5, e5, h⟩ := h
      refine m_callVl (k := 1) (As := [.long (Int64.ofInt v4)]) (rest := []) cx.fix hi hw (cc_X3_inverse (l := l) (G := G) (sz := H.size) hi e5) (by decide) rfl rfl (w_cV 1 hts q_286 q_287 q_288 q_289 q_290 rfl rfl (by decide) (by decide)) hl.1 rfl (lv_room (Nat.le_of_ble_eq_true rfl)) dX3_makeMonic_28 (fun H locs hw => ?_)
      refine lv_lstore (lv' := [(4, .long (Int64.ofInt v5)), (3, .int (Int32.ofInt v2)), (0, .ref (adr 1)), (1, .ref (adr a0)), (2, .ref (adr a1))]) hx hb dX3_makeMonic_31 hl (by decide) rfl (fun ls hl => ?_)
      refine lv_iconst (v := Int32.ofInt (0)) hx hb dX3_makeMonic_33 rfl ?_
      refine lv_istore (lv' := [(6, .int (Int32.ofInt (0))), (4, .long (Int64.ofInt v5)), (3, .int (Int32.ofInt v2)), (0, .ref (adr 1)), (1, .ref (adr a0)), (2, .ref (adr a1))]) hx hb dX3_makeMonic_34 hl (by decide) rfl (fun ls hl => ?_)
      replace h := bnd h
      obtain ⟨M12, j11, h⟩ := h
      refine lp_W (Wst := fun (st : MI × Int) => ∀ (ls : Array Slot) (H : Heap) (locs : List Loc), lv_has ls 7 [(0, .ref (adr 1)), (2, .ref (adr a1)), (3, .int (Int32.ofInt v2)), (4, .long (Int64.ofInt v5)), (6, .int (Int32.ofInt st.2))] → wH G A s.heap s (LL adr) (wf G adr (tm st.1)) H locs → W p l e { frames := 2, cells := 0, slots := 0, locals := 48 } s m args below meth c H locs 0 0 Q (F0 m 36 ls [])) (fin := fun (r : MI) => ∀ (ls : Array Slot) (H : Heap) (locs : List Loc), lv_has ls 7 [] → wH G A s.heap s (LL adr) (wf G adr (tm r)) H locs → W p l e { frames := 2, cells := 0, slots := 0, locals := 48 } s m args below meth c H locs 0 0 Q (F0 m 64 ls [])) ?_ n _ _ j11 ?_ _ _ _ (lv_sub hl [3, 5, 2, 1, 0] rfl) hw
      · clear h j11 hw hl
        intro ⟨M6, v7⟩ x h k1 k2 ls H locs hl hw
        (try dsimp only at k1 k2 hl hw ⊢)
        unfold l_X3_makeMonic_36 at h
        (try dsimp only at h)
        refine lv_iload hx hb dX3_makeMonic_36 (lv_at hl 4 rfl) ?_
        refine lv_iload_n hx hb dX3_makeMonic_38 rfl (lv_at hl 2 rfl) ?_
        replace h := bnd h
        obtain ⟨_, hg, h⟩ := h
        refine o_icmp_gt (tgt := 64) hx hb hg dX3_makeMonic_39 (by decide) (fun hc => ?_) (fun hc => ?_)
        · replace h := ite_t hc h
          cases h
          exact k1 _ rfl _ _ _ (lv_sub hl [] rfl) hw
        · replace h := ite_f hc h
          refine lv_aload_n hx hb dX3_makeMonic_42 rfl (lv_at hl 1 rfl) ?_
          refine lv_iload hx hb dX3_makeMonic_43 (lv_at hl 4 rfl) ?_
          refine lv_aload_n hx hb dX3_makeMonic_45 rfl (lv_at hl 1 rfl) ?_
          refine lv_iload hx hb dX3_makeMonic_46 (lv_at hl 4 rfl) ?_
          replace h := bnd h
          obtain ⟨v8, e8, h⟩ := h
          refine o_lald hx hb hi hw e8 dX3_makeMonic_48 ?_
          refine lv_lload hx hb dX3_makeMonic_49 (lv_at hl 3 rfl) ?_
          refine o_lmul hx hb dX3_makeMonic_51 ?_
          refine lv_aload_n hx hb dX3_makeMonic_52 rfl (lv_at hl 0 rfl) ?_
          refine m_get (k := 1) (C := RX3) (T := TX3) (N := 5) (ref := "LiftFactors$Field") (v := .long (Int64.ofInt (M6.1 1 0))) hx hb hi hts inX3_u hown hw (by decide) rfl 0 (by decide) q_275 rfl rfl dX3_makeMonic_53 ?_
          replace h := bnd h
          obtain ⟨v9, e9, h⟩ := h
          refine o_lrem hx hb e9 dX3_makeMonic_56 ?_
          replace h := bnd h
          obtain ⟨v10, e10, h⟩ := h
          refine o_last hx hb hi hw e10 dX3_makeMonic_57 (fun H locs hw => ?_)
          refine lv_iinc (v := Int32.ofInt (v7 + 1)) (lv' := [(6, .int (Int32.ofInt (v7 + 1))), (0, .ref (adr 1)), (2, .ref (adr a1)), (3, .int (Int32.ofInt v2)), (4, .long (Int64.ofInt v5))]) hx hb dX3_makeMonic_58 hl (k := 4) rfl (inc_o _ _) (by decide) rfl (fun ls hl => ?_)
          refine lv_goto (tgt := 36) hx hb dX3_makeMonic_61 (by decide) ?_
          cases h
          exact k2 _ rfl _ _ _ (lv_sub hl [1, 2, 3, 4, 0] rfl) hw
      · clear hw hl
        intro ls H locs hl hw
        (try dsimp only at hl hw ⊢)
        cases h
        exact kr _ _ _ _ dX3_makeMonic_64 hw
    · replace h := ite_t hc h
      cases h
      exact kr _ _ _ _ dX3_makeMonic_23 hw
theorem cc_X3_makeMonic {l : Launch} {G : gG} {adr : Nat → Nat} {sz : Nat} (hi : adi adr) {n : Nat} {a0 : Nat} {a1 : Nat} {M M' : MI} (h : f_X3_makeMonic n a0 a1 M = some M') : mV l yX3_makeMonic cX3_makeMonic 7 none { frames := 2, cells := 0, slots := 0, locals := 48 } G adr [.ref (adr 1), .ref (adr a0), .ref (adr a1)] (tm M) sz (tm M') := by
  refine wEnter (by decide) (Nat.le_of_ble_eq_true rfl) ?_
  intro p e s m below meth c ls cx hinit hl hsz hw
  exact b_X3_makeMonic cx hi h (fun pc ls H locs hd hw => w_vret (post := fun (u : Mem) => u = tm M') (lf := fun u => (LL adr, wf G adr u)) cx.1 cx.2.1 cx.2.2.1 cx.2.2.2.2.2.2 (tm M') hw rfl hd) hl hw
theorem q_291 : Cond.fieldLink RX3 17 "LiftFactors$Field" "quotient" "[J" ∈ uU := uU_in (by decide +kernel) (by decide +kernel)
theorem q_292 : Cond.methodLink RX3 53 yJ7_fill_d0a16 ∈ uU := uU_in (by decide +kernel) (by decide +kernel)
def l_X3_divide_87 (a0 : Nat) (a1 : Nat) (v2 : Int) (v9 : Int) (v12 : Int) : MI × Int → Option ((MI) ⊕ (MI × Int)) := fun (M14, v15) =>
  Option.bind (gI v15 v2) fun _ =>
  if v2 < v15 then
    some (.inl M14)
  else
    Option.bind (odJ M14 a0 (v9 + v15)) fun v16 =>
    Option.bind (odJ M14 a1 v15) fun v17 =>
    Option.bind (osJ M14 a0 (v9 + v15) (v16 - (v12 * v17))) fun v18 =>
    some (.inr (v18, v15 + 1))
def l_X3_divide_47 (n : Nat) (a0 : Nat) (a1 : Nat) (v2 : Int) (v6 : Int) : MI × Int → Option ((MI) ⊕ (MI × Int)) := fun (M8, v9) =>
  Option.bind (gI v9 0) fun _ =>
  if v9 < 0 then
    some (.inl M8)
  else
    Option.bind (odJ M8 a0 (v9 + v2)) fun v10 =>
    Option.bind (orJ v10 (M8.1 1 0)) fun v11 =>
    Option.bind (f_J9_floorMod_f86c9 (v11 * v6) (M8.1 1 0)) fun v12 =>
    Option.bind (osJ M8 14 v9 v12) fun v13 =>
    Option.bind (lpF (l_X3_divide_87 a0 a1 v2 v9 v12) n (v13, (0))) fun M20 =>
    some (.inr (M20, v9 + (-1)))
def f_X3_divide (n : Nat) (a0 : Nat) (a1 : Nat) (M : MI) : Option MI :=
  Option.bind (f_J7_fill_d0a16 n 14 (0) M) fun v1 =>
  Option.bind (f_X5_degree n a1 v1) fun v2 =>
  Option.bind (gI v2 0) fun _ =>
  if 0 ≤ v2 then
    Option.bind (odJ v1 a1 v2) fun v3 =>
    Option.bind (
      Option.bind (gJ v3 (1)) fun _ =>
      if v3 = (1) then
        some (1)
      else
        Option.bind (odJ v1 a1 v2) fun v4 =>
        Option.bind (f_X3_inverse n v4 v1) fun v5 =>
        some v5) fun v6 =>
    Option.bind (f_X5_degree n a0 v1) fun v7 =>
    Option.bind (lpF (l_X3_divide_47 n a0 a1 v2 v6) n (v1, v7 - v2)) fun M22 =>
    Option.bind (f_X3_reduce n a0 a0 M22) fun v23 =>
    some v23
  else
    some v1
set_option maxRecDepth 100000 in
set_option maxHeartbeats 8000000 in
theorem b_X3_divide {p : Program} {l : Launch} {e : Env} {s : State} {m : MethodId} {args : Array Value} {below : List Frame} {meth : Method} {c : Code} {Q : State → Prop} {G : gG} {A : Nat → Prop} {adr : Nat → Nat} (cx : cX p s m args meth c cX3_divide none 10 yX3_divide.cls) (hi : adi adr) {n : Nat} {a0 : Nat} {a1 : Nat} {M M' : MI} 
    (h : f_X3_divide n a0 a1 M = some M')
    (kr : ∀ (pc : Nat) (ls : Array Slot) (H : Heap) (locs : List Loc), decode cX3_divide pc = .ok (.return_, 1) → wH G A s.heap s (LL adr) (wf G adr (tm M')) H locs → W p l e { frames := 2, cells := 0, slots := 0, locals := 48 } s m args below meth c H locs 0 0 Q (F0 m pc ls []))
    {ls : Array Slot} {H : Heap} {locs : List Loc} (hl : lv_has ls 10 [(0, .ref (adr 1)), (1, .ref (adr a0)), (2, .ref (adr a1))]) (hw : wH G A s.heap s (LL adr) (wf G adr (tm M)) H locs) : W p l e { frames := 2, cells := 0, slots := 0, locals := 48 } s m args below meth c H locs 0 0 Q (F0 m 0 ls []) := by
  obtain ⟨hx, hb, -, -, hown, hts, -⟩ := id cx
  have hown : s.vm.findClass RX3 = some m.cls := hown
  unfold f_X3_divide at h
  refine lv_aload_n hx hb dX3_divide_0 rfl (lv_at hl 0 rfl) ?_
  refine m_get (k := 1) (C := RX3) (T := TX3) (N := 5) (ref := "LiftFactors$Field") (v := .ref (adr 14)) hx hb hi hts inX3_u hown hw (by decide) rfl 1 (by decide) q_291 rfl rfl dX3_divide_1 ?_
  refine lv_lconst (v := Int64.ofInt (0)) hx hb dX3_divide_4 (by decide) ?_
  replace h := bnd h
  obtain ⟨v1, e1, h⟩ := h
  refine m_callSv (As := [.ref (adr 14), .long (Int64.ofInt (0))]) (rest := []) cx.fix hw (cc_J7_fill_d0a16 (l := l) (G := G) (sz := H.size) hi e1) (w_cS 2 hts q_292 q_265 q_266 q_267 rfl rfl (by decide) (by decide)) hl.1 rfl (lv_room (Nat.le_of_ble_eq_true rfl)) dX3_divide_5 (fun H locs hw => ?_)
  refine lv_aload_n hx hb dX3_divide_8 rfl (lv_at hl 2 rfl) ?_
  replace h := bnd h
  obtain ⟨v2, e2, h⟩ := h
  refine m_callSi (As := [.ref (adr a1)]) (rest := []) cx.fix hw (cc_X5_degree (l := l) (G := G) (sz := H.size) hi e2) (w_cS 1 hts q_285 q_246 q_247 q_248 rfl rfl (by decide) (by decide)) hl.1 rfl (lv_room (Nat.le_of_ble_eq_true rfl)) dX3_divide_9 (fun H locs hw => ?_)
  refine lv_istore_n (lv' := [(3, .int (Int32.ofInt v2)), (0, .ref (adr 1)), (1, .ref (adr a0)), (2, .ref (adr a1))]) hx hb dX3_divide_12 rfl hl (by decide) rfl (fun ls hl => ?_)
  refine lv_iload_n hx hb dX3_divide_13 rfl (lv_at hl 0 rfl) ?_
  replace h := bnd h
  obtain ⟨_, hg, h⟩ := h
  refine o_if_ge (tgt := 18) hx hb hg dX3_divide_14 (by decide) (fun hc => ?_) (fun hc => ?_)
  · replace h := ite_t hc h
    refine lv_aload_n hx hb dX3_divide_18 rfl (lv_at hl 3 rfl) ?_
    refine lv_iload_n hx hb dX3_divide_19 rfl (lv_at hl 0 rfl) ?_
    replace h := bnd h
    obtain ⟨v3, e3, h⟩ := h
    refine o_lald hx hb hi hw e3 dX3_divide_20 ?_
    refine lv_lconst (v := Int64.ofInt (1)) hx hb dX3_divide_21 (by decide) ?_
    replace h := bnd h
    obtain ⟨v6, j24, h⟩ := h
    have kj : ∀ (ls : Array Slot) (H : Heap) (locs : List Loc), lv_has ls 10 [(0, .ref (adr 1)), (1, .ref (adr a0)), (2, .ref (adr a1)), (3, .int (Int32.ofInt v2))] → wH G A s.heap s (LL adr) (wf G adr (tm v1)) H locs → W p l e { frames := 2, cells := 0, slots := 0, locals := 48 } s m args below meth c H locs 0 0 Q (F0 m 37 ls [.long (Int64.ofInt v6)]) := by
      intro ls H locs hl hw
      refine lv_lstore (lv' := [(4, .long (Int64.ofInt v6)), (0, .ref (adr 1)), (1, .ref (adr a0)), (2, .ref (adr a1)), (3, .int (Int32.ofInt v2))]) hx hb dX3_divide_37 hl (by decide) rfl (fun ls hl => ?_)
      refine lv_aload_n hx hb dX3_divide_39 rfl (lv_at hl 2 rfl) ?_
      replace h := bnd h
      obtain ⟨v7, e7, h⟩ := h
      refine m_callSi (As := [.ref (adr a0)]) (rest := []) cx.fix hw (cc_X5_degree (l := l) (G := G) (sz := H.size) hi e7) (w_cS 1 hts q_285 q_246 q_247 q_248 rfl rfl (by decide) (by decide)) hl.1 rfl (lv_room (Nat.le_of_ble_eq_true rfl)) dX3_divide_40 (fun H locs hw => ?_)
      refine lv_iload_n hx hb dX3_divide_43 rfl (lv_at hl 4 rfl) ?_
      refine o_isub hx hb dX3_divide_44 ?_
      refine lv_istore (lv' := [(6, .int (Int32.ofInt (v7 - v2))), (4, .long (Int64.ofInt v6)), (0, .ref (adr 1)), (1, .ref (adr a0)), (2, .ref (adr a1)), (3, .int (Int32.ofInt v2))]) hx hb dX3_divide_45 hl (by decide) rfl (fun ls hl => ?_)
      replace h := bnd h
      obtain ⟨M22, j21, h⟩ := h
      refine lp_W (Wst := fun (st : MI × Int) => ∀ (ls : Array Slot) (H : Heap) (locs : List Loc), lv_has ls 10 [(0, .ref (adr 1)), (1, .ref (adr a0)), (2, .ref (adr a1)), (3, .int (Int32.ofInt v2)), (4, .long (Int64.ofInt v6)), (6, .int (Int32.ofInt st.2))] → wH G A s.heap s (LL adr) (wf G adr (tm st.1)) H locs → W p l e { frames := 2, cells := 0, slots := 0, locals := 48 } s m args below meth c H locs 0 0 Q (F0 m 47 ls [])) (fin := fun (r : MI) => ∀ (ls : Array Slot) (H : Heap) (locs : List Loc), lv_has ls 10 [(0, .ref (adr 1)), (1, .ref (adr a0))] → wH G A s.heap s (LL adr) (wf G adr (tm r)) H locs → W p l e { frames := 2, cells := 0, slots := 0, locals := 48 } s m args below meth c H locs 0 0 Q (F0 m 122 ls [])) ?_ n _ _ j21 ?_ _ _ _ (lv_sub hl [2, 3, 4, 5, 1, 0] rfl) hw
      · clear h j21 hw hl
        intro ⟨M8, v9⟩ x h k1 k2 ls H locs hl hw
        (try dsimp only at k1 k2 hl hw ⊢)
        unfold l_X3_divide_47 at h
        (try dsimp only at h)
        refine lv_iload hx hb dX3_divide_47 (lv_at hl 5 rfl) ?_
        replace h := bnd h
        obtain ⟨_, hg, h⟩ := h
        refine o_if_lt (tgt := 122) hx hb hg dX3_divide_49 (by decide) (fun hc => ?_) (fun hc => ?_)
        · replace h := ite_t hc h
          cases h
          exact k1 _ rfl _ _ _ (lv_sub hl [0, 1] rfl) hw
        · replace h := ite_f hc h
          refine lv_aload_n hx hb dX3_divide_52 rfl (lv_at hl 1 rfl) ?_
          refine lv_iload hx hb dX3_divide_53 (lv_at hl 5 rfl) ?_
          refine lv_iload_n hx hb dX3_divide_55 rfl (lv_at hl 3 rfl) ?_
          refine o_iadd hx hb dX3_divide_56 ?_
          replace h := bnd h
          obtain ⟨v10, e10, h⟩ := h
          refine o_lald hx hb hi hw e10 dX3_divide_57 ?_
          refine lv_aload_n hx hb dX3_divide_58 rfl (lv_at hl 0 rfl) ?_
          refine m_get (k := 1) (C := RX3) (T := TX3) (N := 5) (ref := "LiftFactors$Field") (v := .long (Int64.ofInt (M8.1 1 0))) hx hb hi hts inX3_u hown hw (by decide) rfl 0 (by decide) q_275 rfl rfl dX3_divide_59 ?_
          replace h := bnd h
          obtain ⟨v11, e11, h⟩ := h
          refine o_lrem hx hb e11 dX3_divide_62 ?_
          refine lv_lload hx hb dX3_divide_63 (lv_at hl 4 rfl) ?_
          refine o_lmul hx hb dX3_divide_65 ?_
          refine lv_aload_n hx hb dX3_divide_66 rfl (lv_at hl 0 rfl) ?_
          refine m_get (k := 1) (C := RX3) (T := TX3) (N := 5) (ref := "LiftFactors$Field") (v := .long (Int64.ofInt (M8.1 1 0))) hx hb hi hts inX3_u hown hw (by decide) rfl 0 (by decide) q_275 rfl rfl dX3_divide_67 ?_
          replace h := bnd h
          obtain ⟨v12, e12, h⟩ := h
          refine m_callSl (As := [.long (Int64.ofInt (v11 * v6)), .long (Int64.ofInt (M8.1 1 0))]) (rest := []) cx.fix hw (cc_J9_floorMod_f86c9 (l := l) (G := G) (sz := H.size) (M := M8) hi e12) (w_cS 2 hts q_276 q_277 q_278 q_279 rfl rfl (by decide) (by decide)) hl.1 rfl (lv_room (Nat.le_of_ble_eq_true rfl)) dX3_divide_70 (fun H locs hw => ?_)
          refine lv_lstore (lv' := [(7, .long (Int64.ofInt v12)), (0, .ref (adr 1)), (1, .ref (adr a0)), (2, .ref (adr a1)), (3, .int (Int32.ofInt v2)), (4, .long (Int64.ofInt v6)), (6, .int (Int32.ofInt v9))]) hx hb dX3_divide_73 hl (by decide) rfl (fun ls hl => ?_)
          refine lv_aload_n hx hb dX3_divide_75 rfl (lv_at hl 1 rfl) ?_
          refine m_get (k := 1) (C := RX3) (T := TX3) (N := 5) (ref := "LiftFactors$Field") (v := .ref (adr 14)) hx hb hi hts inX3_u hown hw (by decide) rfl 1 (by decide) q_291 rfl rfl dX3_divide_76 ?_
          refine lv_iload hx hb dX3_divide_79 (lv_at hl 6 rfl) ?_
          refine lv_lload hx hb dX3_divide_81 (lv_at hl 0 rfl) ?_
          replace h := bnd h
          obtain ⟨v13, e13, h⟩ := h
          refine o_last hx hb hi hw e13 dX3_divide_83 (fun H locs hw => ?_)
          refine lv_iconst (v := Int32.ofInt (0)) hx hb dX3_divide_84 rfl ?_
          refine lv_istore (lv' := [(9, .int (Int32.ofInt (0))), (7, .long (Int64.ofInt v12)), (0, .ref (adr 1)), (1, .ref (adr a0)), (2, .ref (adr a1)), (3, .int (Int32.ofInt v2)), (4, .long (Int64.ofInt v6)), (6, .int (Int32.ofInt v9))]) hx hb dX3_divide_85 hl (by decide) rfl (fun ls hl => ?_)
          replace h := bnd h
          obtain ⟨M20, j19, h⟩ := h
          refine lp_W (Wst := fun (st : MI × Int) => ∀ (ls : Array Slot) (H : Heap) (locs : List Loc), lv_has ls 10 [(0, .ref (adr 1)), (1, .ref (adr a0)), (2, .ref (adr a1)), (3, .int (Int32.ofInt v2)), (4, .long (Int64.ofInt v6)), (6, .int (Int32.ofInt v9)), (7, .long (Int64.ofInt v12)), (9, .int (Int32.ofInt st.2))] → wH G A s.heap s (LL adr) (wf G adr (tm st.1)) H locs → W p l e { frames := 2, cells := 0, slots := 0, locals := 48 } s m args below meth c H locs 0 0 Q (F0 m 87 ls [])) (fin := fun (r : MI) => ∀ (ls : Array Slot) (H : Heap) (locs : List Loc), lv_has ls 10 [(0, .ref (adr 1)), (1, .ref (adr a0)), (2, .ref (adr a1)), (3, .int (Int32.ofInt v2)), (4, .long (Int64.ofInt v6)), (6, .int (Int32.ofInt v9))] → wH G A s.heap s (LL adr) (wf G adr (tm r)) H locs → W p l e { frames := 2, cells := 0, slots := 0, locals := 48 } s m args below meth c H locs 0 0 Q (F0 m 116 ls [])) ?_ n _ _ j19 ?_ _ _ _ (lv_sub hl [2, 3, 4, 5, 6, 7, 1, 0] rfl) hw
          · clear h j19 hw hl
            intro ⟨M14, v15⟩ x h k1 k2 ls H locs hl hw
            (try dsimp only at k1 k2 hl hw ⊢)
            unfold l_X3_divide_87 at h
            (try dsimp only at h)
            refine lv_iload hx hb dX3_divide_87 (lv_at hl 7 rfl) ?_
            refine lv_iload_n hx hb dX3_divide_89 rfl (lv_at hl 3 rfl) ?_
            replace h := bnd h
            obtain ⟨_, hg, h⟩ := h
            refine o_icmp_gt (tgt := 116) hx hb hg dX3_divide_90 (by decide) (fun hc => ?_) (fun hc => ?_)
            · replace h := ite_t hc h
              cases h
              exact k1 _ rfl _ _ _ (lv_sub hl [0, 1, 2, 3, 4, 5] rfl) hw
            · replace h := ite_f hc h
              refine lv_aload_n hx hb dX3_divide_93 rfl (lv_at hl 1 rfl) ?_
              refine lv_iload hx hb dX3_divide_94 (lv_at hl 5 rfl) ?_
              refine lv_iload hx hb dX3_divide_96 (lv_at hl 7 rfl) ?_
              refine o_iadd hx hb dX3_divide_98 ?_
              refine lv_dup2_11 hx hb dX3_divide_99 rfl rfl ?_
              replace h := bnd h
              obtain ⟨v16, e16, h⟩ := h
              refine o_lald hx hb hi hw e16 dX3_divide_100 ?_
              refine lv_lload hx hb dX3_divide_101 (lv_at hl 6 rfl) ?_
              refine lv_aload_n hx hb dX3_divide_103 rfl (lv_at hl 2 rfl) ?_
              refine lv_iload hx hb dX3_divide_104 (lv_at hl 7 rfl) ?_
              replace h := bnd h
              obtain ⟨v17, e17, h⟩ := h
              refine o_lald hx hb hi hw e17 dX3_divide_106 ?_
              refine o_lmul hx hb dX3_divide_107 ?_
              refine o_lsub hx hb dX3_divide_108 ?_
              replace h := bnd h
              obtain ⟨v18, e18, h⟩ := h
              refine o_last hx hb hi hw e18 dX3_divide_109 (fun H locs hw => ?_)
              refine lv_iinc (v := Int32.ofInt (v15 + 1)) (lv' := [(9, .int (Int32.ofInt (v15 + 1))), (0, .ref (adr 1)), (1, .ref (adr a0)), (2, .ref (adr a1)), (3, .int (Int32.ofInt v2)), (4, .long (Int64.ofInt v6)), (6, .int (Int32.ofInt v9)), (7, .long (Int64.ofInt v12))]) hx hb dX3_divide_110 hl (k := 7) rfl (inc_o _ _) (by decide) rfl (fun ls hl => ?_)
              refine lv_goto (tgt := 87) hx hb dX3_divide_113 (by decide) ?_
              cases h
              exact k2 _ rfl _ _ _ (lv_sub hl [1, 2, 3, 4, 5, 6, 7, 0] rfl) hw
          · clear hw hl
            intro ls H locs hl hw
            (try dsimp only at hl hw ⊢)
            refine lv_iinc (v := Int32.ofInt (v9 + (-1))) (lv' := [(6, .int (Int32.ofInt (v9 + (-1)))), (0, .ref (adr 1)), (1, .ref (adr a0)), (2, .ref (adr a1)), (3, .int (Int32.ofInt v2)), (4, .long (Int64.ofInt v6))]) hx hb dX3_divide_116 hl (k := 5) rfl (inc_o _ _) (by decide) rfl (fun ls hl => ?_)
            refine lv_goto (tgt := 47) hx hb dX3_divide_119 (by decide) ?_
            cases h
            exact k2 _ rfl _ _ _ (lv_sub hl [1, 2, 3, 4, 5, 0] rfl) hw
      · clear hw hl
        intro ls H locs hl hw
        (try dsimp only at hl hw ⊢)
        refine lv_aload_n hx hb dX3_divide_122 rfl (lv_at hl 0 rfl) ?_
        refine lv_aload_n hx hb dX3_divide_123 rfl (lv_at hl 1 rfl) ?_
        refine lv_aload_n hx hb dX3_divide_124 rfl (lv_at hl 1 rfl) ?_
        replace h := bnd h
        obtain ⟨v23, e23, h⟩ := h
        refine m_callVv (k := 1) (As := [.ref (adr a0), .ref (adr a0)]) (rest := []) cx.fix hi hw (cc_X3_reduce (l := l) (G := G) (sz := H.size) hi e23) (by decide) rfl rfl (w_cV 2 hts q_280 q_281 q_282 q_283 q_284 rfl rfl (by decide) (by decide)) hl.1 rfl (lv_room (Nat.le_of_ble_eq_true rfl)) dX3_divide_125 (fun H locs hw => ?_)
        cases h
        exact kr _ _ _ _ dX3_divide_128 hw
    clear h
    replace h := j24
    clear j24
    replace h := bnd h
    obtain ⟨_, hg, h⟩ := h
    refine o_lcmp_ne (tgt := 30) hx hb hg dX3_divide_22 dX3_divide_23 (by decide) (fun hc => ?_) (fun hc => ?_)
    · replace h := ite_f hc h
      refine lv_aload_n hx hb dX3_divide_30 rfl (lv_at hl 1 rfl) ?_
      refine lv_aload_n hx hb dX3_divide_31 rfl (lv_at hl 3 rfl) ?_
      refine lv_iload_n hx hb dX3_divide_32 rfl (lv_at hl 0 rfl) ?_
      replace h := bnd h
      obtain ⟨v4, e4, h⟩ := h
      refine o_lald hx hb hi hw e4 dX3_divide_33 ?_
      replace h := bnd h
      obtain ⟨v5, e5, h⟩ := h
      refine m_callVl (k := 1) (As := [.long (Int64.ofInt v4)]) (rest := []) cx.fix hi hw (cc_X3_inverse (l := l) (G := G) (sz := H.size) hi e5) (by decide) rfl rfl (w_cV 1 hts q_286 q_287 q_288 q_289 q_290 rfl rfl (by decide) (by decide)) hl.1 rfl (lv_room (Nat.le_of_ble_eq_true rfl)) dX3_divide_34 (fun H locs hw => ?_)
      cases h
      exact kj _ _ _ (lv_sub hl [1, 2, 3, 0] rfl) hw
    · replace h := ite_t hc h
      refine lv_lconst (v := Int64.ofInt (1)) hx hb dX3_divide_26 (by decide) ?_
      refine lv_goto (tgt := 37) hx hb dX3_divide_27 (by decide) ?_
      cases h
      exact kj _ _ _ (lv_sub hl [1, 2, 3, 0] rfl) hw
  · replace h := ite_f hc h
    cases h
    exact kr _ _ _ _ dX3_divide_17 hw
theorem cc_X3_divide {l : Launch} {G : gG} {adr : Nat → Nat} {sz : Nat} (hi : adi adr) {n : Nat} {a0 : Nat} {a1 : Nat} {M M' : MI} (h : f_X3_divide n a0 a1 M = some M') : mV l yX3_divide cX3_divide 10 none { frames := 2, cells := 0, slots := 0, locals := 48 } G adr [.ref (adr 1), .ref (adr a0), .ref (adr a1)] (tm M) sz (tm M') := by
  refine wEnter (by decide) (Nat.le_of_ble_eq_true rfl) ?_
  intro p e s m below meth c ls cx hinit hl hsz hw
  exact b_X3_divide cx hi h (fun pc ls H locs hd hw => w_vret (post := fun (u : Mem) => u = tm M') (lf := fun u => (LL adr, wf G adr u)) cx.1 cx.2.1 cx.2.2.1 cx.2.2.2.2.2.2 (tm M') hw rfl hd) hl hw
theorem q_293 : Cond.fieldLink RX3 24 "LiftFactors$Field" "left" "[J" ∈ uU := uU_in (by decide +kernel) (by decide +kernel)
theorem q_294 : Cond.fieldLink RX3 27 "LiftFactors$Field" "right" "[J" ∈ uU := uU_in (by decide +kernel) (by decide +kernel)
theorem q_295 : Cond.methodLink RX3 59 yX3_divide ∈ uU := uU_in (by decide +kernel) (by decide +kernel)
theorem q_296 : Cond.instanceMethod yX3_divide ∈ uU := uU_in (by decide +kernel) (by decide +kernel)
theorem q_297 : Cond.selects yX3_divide.cls yX3_divide yX3_divide ∈ uU := uU_in (by decide +kernel) (by decide +kernel)
theorem q_298 : Cond.initialized yX3_divide.cls ∈ uU := uU_in (by decide +kernel) (by decide +kernel)
theorem q_299 : Cond.code yX3_divide cX3_divide 10 none ∈ uU := uU_in (by decide +kernel) (by decide +kernel)
theorem q_300 : Cond.methodLink RX3 62 yX3_makeMonic ∈ uU := uU_in (by decide +kernel) (by decide +kernel)
theorem q_301 : Cond.instanceMethod yX3_makeMonic ∈ uU := uU_in (by decide +kernel) (by decide +kernel)
theorem q_302 : Cond.selects yX3_makeMonic.cls yX3_makeMonic yX3_makeMonic ∈ uU := uU_in (by decide +kernel) (by decide +kernel)
theorem q_303 : Cond.initialized yX3_makeMonic.cls ∈ uU := uU_in (by decide +kernel) (by decide +kernel)
theorem q_304 : Cond.code yX3_makeMonic cX3_makeMonic 7 none ∈ uU := uU_in (by decide +kernel) (by decide +kernel)
def l_X3_commonDivisor_33 (n : Nat) : MI × Nat × Nat × Int → Option ((MI × Nat) ⊕ (MI × Nat × Nat × Int)) := fun (M3, v4, v5, v6) =>
  Option.bind (gI v6 (22)) fun _ =>
  if (22) < v6 then
    some (.inl (M3, v4))
  else
    Option.bind (f_X5_degree n v5 M3) fun v7 =>
    Option.bind (gI v7 0) fun _ =>
    if v7 < 0 then
      some (.inl (M3, v4))
    else
      Option.bind (f_X3_divide n v4 v5 M3) fun v8 =>
      some (.inr (v8, v5, v4, v6 + 1))
def f_X3_commonDivisor (n : Nat) (a0 : Nat) (a1 : Nat) (a2 : Nat) (M : MI) : Option MI :=
  Option.bind (f_X3_reduce n a0 16 M) fun v1 =>
  Option.bind (f_X3_reduce n a1 17 v1) fun v2 =>
  Option.bind (lpF (l_X3_commonDivisor_33 n) n (v2, 16, 17, (0))) fun (M10, v11) =>
  Option.bind (f_X3_makeMonic n v11 a2 M10) fun v12 =>
  some v12
set_option maxRecDepth 100000 in
set_option maxHeartbeats 8000000 in
theorem b_X3_commonDivisor {p : Program} {l : Launch} {e : Env} {s : State} {m : MethodId} {args : Array Value} {below : List Frame} {meth : Method} {c : Code} {Q : State → Prop} {G : gG} {A : Nat → Prop} {adr : Nat → Nat} (cx : cX p s m args meth c cX3_commonDivisor none 8 yX3_commonDivisor.cls) (hi : adi adr) {n : Nat} {a0 : Nat} {a1 : Nat} {a2 : Nat} {M M' : MI} 
    (h : f_X3_commonDivisor n a0 a1 a2 M = some M')
    (kr : ∀ (pc : Nat) (ls : Array Slot) (H : Heap) (locs : List Loc), decode cX3_commonDivisor pc = .ok (.return_, 1) → wH G A s.heap s (LL adr) (wf G adr (tm M')) H locs → W p l e { frames := 3, cells := 0, slots := 0, locals := 77 } s m args below meth c H locs 0 0 Q (F0 m pc ls []))
    {ls : Array Slot} {H : Heap} {locs : List Loc} (hl : lv_has ls 8 [(0, .ref (adr 1)), (1, .ref (adr a0)), (2, .ref (adr a1)), (3, .ref (adr a2))]) (hw : wH G A s.heap s (LL adr) (wf G adr (tm M)) H locs) : W p l e { frames := 3, cells := 0, slots := 0, locals := 77 } s m args below meth c H locs 0 0 Q (F0 m 0 ls []) := by
  obtain ⟨hx, hb, -, -, hown, hts, -⟩ := id cx
  have hown : s.vm.findClass RX3 = some m.cls := hown
  unfold f_X3_commonDivisor at h
  refine lv_aload_n hx hb dX3_commonDivisor_0 rfl (lv_at hl 0 rfl) ?_
  refine lv_aload_n hx hb dX3_commonDivisor_1 rfl (lv_at hl 1 rfl) ?_
  refine lv_aload_n hx hb dX3_commonDivisor_2 rfl (lv_at hl 0 rfl) ?_
  refine m_get (k := 1) (C := RX3) (T := TX3) (N := 5) (ref := "LiftFactors$Field") (v := .ref (adr 16)) hx hb hi hts inX3_u hown hw (by decide) rfl 3 (by decide) q_293 rfl rfl dX3_commonDivisor_3 ?_
  replace h := bnd h
  obtain ⟨v1, e1, h⟩ := h
  refine m_callVv (k := 1) (As := [.ref (adr a0), .ref (adr 16)]) (rest := []) cx.fix hi hw (cc_X3_reduce (l := l) (G := G) (sz := H.size) hi e1) (by decide) rfl rfl (w_cV 2 hts q_280 q_281 q_282 q_283 q_284 rfl rfl (by decide) (by decide)) hl.1 rfl (lv_room (Nat.le_of_ble_eq_true rfl)) dX3_commonDivisor_6 (fun H locs hw => ?_)
  refine lv_aload_n hx hb dX3_commonDivisor_9 rfl (lv_at hl 0 rfl) ?_
  refine lv_aload_n hx hb dX3_commonDivisor_10 rfl (lv_at hl 2 rfl) ?_
  refine lv_aload_n hx hb dX3_commonDivisor_11 rfl (lv_at hl 0 rfl) ?_
  refine m_get (k := 1) (C := RX3) (T := TX3) (N := 5) (ref := "LiftFactors$Field") (v := .ref (adr 17)) hx hb hi hts inX3_u hown hw (by decide) rfl 4 (by decide) q_294 rfl rfl dX3_commonDivisor_12 ?_
  replace h := bnd h
  obtain ⟨v2, e2, h⟩ := h
  refine m_callVv (k := 1) (As := [.ref (adr a1), .ref (adr 17)]) (rest := []) cx.fix hi hw (cc_X3_reduce (l := l) (G := G) (sz := H.size) hi e2) (by decide) rfl rfl (w_cV 2 hts q_280 q_281 q_282 q_283 q_284 rfl rfl (by decide) (by decide)) hl.1 rfl (lv_room (Nat.le_of_ble_eq_true rfl)) dX3_commonDivisor_15 (fun H locs hw => ?_)
  refine lv_aload_n hx hb dX3_commonDivisor_18 rfl (lv_at hl 0 rfl) ?_
  refine m_get (k := 1) (C := RX3) (T := TX3) (N := 5) (ref := "LiftFactors$Field") (v := .ref (adr 16)) hx hb hi hts inX3_u hown hw (by decide) rfl 3 (by decide) q_293 rfl rfl dX3_commonDivisor_19 ?_
  refine lv_astore (lv' := [(4, .ref (adr 16)), (0, .ref (adr 1)), (1, .ref (adr a0)), (2, .ref (adr a1)), (3, .ref (adr a2))]) hx hb dX3_commonDivisor_22 hl (by decide) rfl (fun ls hl => ?_)
  refine lv_aload_n hx hb dX3_commonDivisor_24 rfl (lv_at hl 1 rfl) ?_
  refine m_get (k := 1) (C := RX3) (T := TX3) (N := 5) (ref := "LiftFactors$Field") (v := .ref (adr 17)) hx hb hi hts inX3_u hown hw (by decide) rfl 4 (by decide) q_294 rfl rfl dX3_commonDivisor_25 ?_
  refine lv_astore (lv' := [(5, .ref (adr 17)), (4, .ref (adr 16)), (0, .ref (adr 1)), (1, .ref (adr a0)), (2, .ref (adr a1)), (3, .ref (adr a2))]) hx hb dX3_commonDivisor_28 hl (by decide) rfl (fun ls hl => ?_)
  refine lv_iconst (v := Int32.ofInt (0)) hx hb dX3_commonDivisor_30 rfl ?_
  refine lv_istore (lv' := [(6, .int (Int32.ofInt (0))), (5, .ref (adr 17)), (4, .ref (adr 16)), (0, .ref (adr 1)), (1, .ref (adr a0)), (2, .ref (adr a1)), (3, .ref (adr a2))]) hx hb dX3_commonDivisor_31 hl (by decide) rfl (fun ls hl => ?_)
  replace h := bnd h
  obtain ⟨⟨M10, v11⟩, j9, h⟩ := h
  refine lp_W (Wst := fun (st : MI × Nat × Nat × Int) => ∀ (ls : Array Slot) (H : Heap) (locs : List Loc), lv_has ls 8 [(0, .ref (adr 1)), (3, .ref (adr a2)), (4, .ref (adr st.2.1)), (5, .ref (adr st.2.2.1)), (6, .int (Int32.ofInt st.2.2.2))] → wH G A s.heap s (LL adr) (wf G adr (tm st.1)) H locs → W p l e { frames := 3, cells := 0, slots := 0, locals := 77 } s m args below meth c H locs 0 0 Q (F0 m 33 ls [])) (fin := fun (r : MI × Nat) => ∀ (ls : Array Slot) (H : Heap) (locs : List Loc), lv_has ls 8 [(0, .ref (adr 1)), (3, .ref (adr a2)), (4, .ref (adr r.2))] → wH G A s.heap s (LL adr) (wf G adr (tm r.1)) H locs → W p l e { frames := 3, cells := 0, slots := 0, locals := 77 } s m args below meth c H locs 0 0 Q (F0 m 74 ls [])) ?_ n _ _ j9 ?_ _ _ _ (lv_sub hl [3, 6, 2, 1, 0] rfl) hw
  · clear h j9 hw hl
    intro ⟨M3, v4, v5, v6⟩ x h k1 k2 ls H locs hl hw
    (try dsimp only at k1 k2 hl hw ⊢)
    unfold l_X3_commonDivisor_33 at h
    (try dsimp only at h)
    refine lv_iload hx hb dX3_commonDivisor_33 (lv_at hl 4 rfl) ?_
    refine lv_bipush (v := Int32.ofInt (22)) hx hb dX3_commonDivisor_35 rfl ?_
    replace h := bnd h
    obtain ⟨_, hg, h⟩ := h
    refine o_icmp_gt (tgt := 74) hx hb hg dX3_commonDivisor_37 (by decide) (fun hc => ?_) (fun hc => ?_)
    · replace h := ite_t hc h
      cases h
      exact k1 _ rfl _ _ _ (lv_sub hl [0, 1, 2] rfl) hw
    · replace h := ite_f hc h
      refine lv_aload hx hb dX3_commonDivisor_40 (lv_at hl 3 rfl) ?_
      replace h := bnd h
      obtain ⟨v7, e7, h⟩ := h
      refine m_callSi (As := [.ref (adr v5)]) (rest := []) cx.fix hw (cc_X5_degree (l := l) (G := G) (sz := H.size) hi e7) (w_cS 1 hts q_285 q_246 q_247 q_248 rfl rfl (by decide) (by decide)) hl.1 rfl (lv_room (Nat.le_of_ble_eq_true rfl)) dX3_commonDivisor_42 (fun H locs hw => ?_)
      replace h := bnd h
      obtain ⟨_, hg, h⟩ := h
      refine o_if_lt (tgt := 74) hx hb hg dX3_commonDivisor_45 (by decide) (fun hc => ?_) (fun hc => ?_)
      · replace h := ite_t hc h
        cases h
        exact k1 _ rfl _ _ _ (lv_sub hl [0, 1, 2] rfl) hw
      · replace h := ite_f hc h
        refine lv_aload_n hx hb dX3_commonDivisor_48 rfl (lv_at hl 0 rfl) ?_
        refine lv_aload hx hb dX3_commonDivisor_49 (lv_at hl 2 rfl) ?_
        refine lv_aload hx hb dX3_commonDivisor_51 (lv_at hl 3 rfl) ?_
        replace h := bnd h
        obtain ⟨v8, e8, h⟩ := h
        refine m_callVv (k := 1) (As := [.ref (adr v4), .ref (adr v5)]) (rest := []) cx.fix hi hw (cc_X3_divide (l := l) (G := G) (sz := H.size) hi e8) (by decide) rfl rfl (w_cV 2 hts q_295 q_296 q_297 q_298 q_299 rfl rfl (by decide) (by decide)) hl.1 rfl (lv_room (Nat.le_of_ble_eq_true rfl)) dX3_commonDivisor_53 (fun H locs hw => ?_)
        refine lv_aload hx hb dX3_commonDivisor_56 (lv_at hl 2 rfl) ?_
        refine lv_astore (lv' := [(7, .ref (adr v4)), (0, .ref (adr 1)), (3, .ref (adr a2)), (4, .ref (adr v4)), (5, .ref (adr v5)), (6, .int (Int32.ofInt v6))]) hx hb dX3_commonDivisor_58 hl (by decide) rfl (fun ls hl => ?_)
        refine lv_aload hx hb dX3_commonDivisor_60 (lv_at hl 4 rfl) ?_
        refine lv_astore (lv' := [(4, .ref (adr v5)), (7, .ref (adr v4)), (0, .ref (adr 1)), (3, .ref (adr a2)), (5, .ref (adr v5)), (6, .int (Int32.ofInt v6))]) hx hb dX3_commonDivisor_62 hl (by decide) rfl (fun ls hl => ?_)
        refine lv_aload hx hb dX3_commonDivisor_64 (lv_at hl 1 rfl) ?_
        refine lv_astore (lv' := [(5, .ref (adr v4)), (4, .ref (adr v5)), (7, .ref (adr v4)), (0, .ref (adr 1)), (3, .ref (adr a2)), (6, .int (Int32.ofInt v6))]) hx hb dX3_commonDivisor_66 hl (by decide) rfl (fun ls hl => ?_)
        refine lv_iinc (v := Int32.ofInt (v6 + 1)) (lv' := [(6, .int (Int32.ofInt (v6 + 1))), (5, .ref (adr v4)), (4, .ref (adr v5)), (7, .ref (adr v4)), (0, .ref (adr 1)), (3, .ref (adr a2))]) hx hb dX3_commonDivisor_68 hl (k := 5) rfl (inc_o _ _) (by decide) rfl (fun ls hl => ?_)
        refine lv_goto (tgt := 33) hx hb dX3_commonDivisor_71 (by decide) ?_
        cases h
        exact k2 _ rfl _ _ _ (lv_sub hl [4, 5, 2, 1, 0] rfl) hw
  · clear hw hl
    intro ls H locs hl hw
    (try dsimp only at hl hw ⊢)
    refine lv_aload_n hx hb dX3_commonDivisor_74 rfl (lv_at hl 0 rfl) ?_
    refine lv_aload hx hb dX3_commonDivisor_75 (lv_at hl 2 rfl) ?_
    refine lv_aload_n hx hb dX3_commonDivisor_77 rfl (lv_at hl 1 rfl) ?_
    replace h := bnd h
    obtain ⟨v12, e12, h⟩ := h
    refine m_callVv (k := 1) (As := [.ref (adr v11), .ref (adr a2)]) (rest := []) cx.fix hi hw (cc_X3_makeMonic (l := l) (G := G) (sz := H.size) hi e12) (by decide) rfl rfl (w_cV 2 hts q_300 q_301 q_302 q_303 q_304 rfl rfl (by decide) (by decide)) hl.1 rfl (lv_room (Nat.le_of_ble_eq_true rfl)) dX3_commonDivisor_78 (fun H locs hw => ?_)
    cases h
    exact kr _ _ _ _ dX3_commonDivisor_81 hw
theorem cc_X3_commonDivisor {l : Launch} {G : gG} {adr : Nat → Nat} {sz : Nat} (hi : adi adr) {n : Nat} {a0 : Nat} {a1 : Nat} {a2 : Nat} {M M' : MI} (h : f_X3_commonDivisor n a0 a1 a2 M = some M') : mV l yX3_commonDivisor cX3_commonDivisor 8 none { frames := 3, cells := 0, slots := 0, locals := 77 } G adr [.ref (adr 1), .ref (adr a0), .ref (adr a1), .ref (adr a2)] (tm M) sz (tm M') := by
  refine wEnter (by decide) (Nat.le_of_ble_eq_true rfl) ?_
  intro p e s m below meth c ls cx hinit hl hsz hw
  exact b_X3_commonDivisor cx hi h (fun pc ls H locs hd hw => w_vret (post := fun (u : Mem) => u = tm M') (lf := fun u => (LL adr, wf G adr u)) cx.1 cx.2.1 cx.2.2.1 cx.2.2.2.2.2.2 (tm M') hw rfl hd) hl hw
theorem q_305 : Cond.fieldLink RX3 21 "LiftFactors$Field" "wide" "[J" ∈ uU := uU_in (by decide +kernel) (by decide +kernel)
def l_X3_multiply_21 (a0 : Nat) (a1 : Nat) (a3 : Int) (v3 : Int) : MI × Int → Option ((MI) ⊕ (MI × Int)) := fun (M4, v5) =>
  Option.bind (gI v5 a3) fun _ =>
  if a3 ≤ v5 then
    some (.inl M4)
  else
    Option.bind (odJ M4 a0 v3) fun v6 =>
    Option.bind (gJ v6 (0)) fun _ =>
    if v6 = (0) then
      some (.inl M4)
    else
      Option.bind (odJ M4 15 (v3 + v5)) fun v7 =>
      Option.bind (odJ M4 a0 v3) fun v8 =>
      Option.bind (odJ M4 a1 v5) fun v9 =>
      Option.bind (osJ M4 15 (v3 + v5) (v7 + (v8 * v9))) fun v10 =>
      some (.inr (v10, v5 + 1))
def l_X3_multiply_11 (n : Nat) (a0 : Nat) (a1 : Nat) (a3 : Int) : MI × Int → Option ((MI) ⊕ (MI × Int)) := fun (M2, v3) =>
  Option.bind (gI v3 a3) fun _ =>
  if a3 ≤ v3 then
    some (.inl M2)
  else
    Option.bind (lpF (l_X3_multiply_21 a0 a1 a3 v3) n (M2, (0))) fun M12 =>
    some (.inr (M12, v3 + 1))
def l_X3_multiply_102 (a2 : Nat) (a3 : Int) (v16 : Int) (v18 : Int) : MI × Int → Option ((MI) ⊕ (MI × Int)) := fun (M19, v20) =>
  Option.bind (gI v20 a3) fun _ =>
  if a3 ≤ v20 then
    some (.inl M19)
  else
    Option.bind (gJ v18 (0)) fun _ =>
    if v18 = (0) then
      some (.inl M19)
    else
      Option.bind (odJ M19 15 (v16 + v20)) fun v21 =>
      Option.bind (odJ M19 a2 v20) fun v22 =>
      Option.bind (osJ M19 15 (v16 + v20) (v21 - (v18 * v22))) fun v23 =>
      some (.inr (v23, v20 + 1))
def l_X3_multiply_77 (n : Nat) (a2 : Nat) (a3 : Int) : MI × Int → Option ((MI) ⊕ (MI × Int)) := fun (M15, v16) =>
  Option.bind (gI v16 0) fun _ =>
  if v16 < 0 then
    some (.inl M15)
  else
    Option.bind (odJ M15 15 (v16 + a3)) fun v17 =>
    Option.bind (orJ v17 (M15.1 1 0)) fun v18 =>
    Option.bind (lpF (l_X3_multiply_102 a2 a3 v16 v18) n (M15, (0))) fun M25 =>
    some (.inr (M25, v16 + (-1)))
def l_X3_multiply_151 (a3 : Int) (a4 : Nat) : MI × Int → Option ((MI) ⊕ (MI × Int)) := fun (M28, v29) =>
  Option.bind (gI v29 (11)) fun _ =>
  if (11) ≤ v29 then
    some (.inl M28)
  else
    Option.bind (
      Option.bind (gI v29 a3) fun _ =>
      if a3 ≤ v29 then
        some (0)
      else
        Option.bind (odJ M28 15 v29) fun v30 =>
        Option.bind (f_J9_floorMod_f86c9 v30 (M28.1 1 0)) fun v31 =>
        some v31) fun v32 =>
    Option.bind (osJ M28 a4 v29 v32) fun v33 =>
    some (.inr (v33, v29 + 1))
def f_X3_multiply (n : Nat) (a0 : Nat) (a1 : Nat) (a2 : Nat) (a3 : Int) (a4 : Nat) (M : MI) : Option MI :=
  Option.bind (f_J7_fill_d0a16 n 15 (0) M) fun v1 =>
  Option.bind (lpF (l_X3_multiply_11 n a0 a1 a3) n (v1, (0))) fun M14 =>
  Option.bind (lpF (l_X3_multiply_77 n a2 a3) n (M14, a3 - (2))) fun M27 =>
  Option.bind (lpF (l_X3_multiply_151 a3 a4) n (M27, (0))) fun M36 =>
  some M36
set_option maxRecDepth 100000 in
set_option maxHeartbeats 8000000 in
theorem b_X3_multiply {p : Program} {l : Launch} {e : Env} {s : State} {m : MethodId} {args : Array Value} {below : List Frame} {meth : Method} {c : Code} {Q : State → Prop} {G : gG} {A : Nat → Prop} {adr : Nat → Nat} (cx : cX p s m args meth c cX3_multiply none 10 yX3_multiply.cls) (hi : adi adr) {n : Nat} {a0 : Nat} {a1 : Nat} {a2 : Nat} {a3 : Int} {a4 : Nat} {M M' : MI} 
    (h : f_X3_multiply n a0 a1 a2 a3 a4 M = some M')
    (kr : ∀ (pc : Nat) (ls : Array Slot) (H : Heap) (locs : List Loc), decode cX3_multiply pc = .ok (.return_, 1) → wH G A s.heap s (LL adr) (wf G adr (tm M')) H locs → W p l e { frames := 1, cells := 0, slots := 0, locals := 25 } s m args below meth c H locs 0 0 Q (F0 m pc ls []))
    {ls : Array Slot} {H : Heap} {locs : List Loc} (hl : lv_has ls 10 [(0, .ref (adr 1)), (1, .ref (adr a0)), (2, .ref (adr a1)), (3, .ref (adr a2)), (4, .int (Int32.ofInt a3)), (5, .ref (adr a4))]) (hw : wH G A s.heap s (LL adr) (wf G adr (tm M)) H locs) : W p l e { frames := 1, cells := 0, slots := 0, locals := 25 } s m args below meth c H locs 0 0 Q (F0 m 0 ls []) := by
  obtain ⟨hx, hb, -, -, hown, hts, -⟩ := id cx
  have hown : s.vm.findClass RX3 = some m.cls := hown
  unfold f_X3_multiply at h
  refine lv_aload_n hx hb dX3_multiply_0 rfl (lv_at hl 0 rfl) ?_
  refine m_get (k := 1) (C := RX3) (T := TX3) (N := 5) (ref := "LiftFactors$Field") (v := .ref (adr 15)) hx hb hi hts inX3_u hown hw (by decide) rfl 2 (by decide) q_305 rfl rfl dX3_multiply_1 ?_
  refine lv_lconst (v := Int64.ofInt (0)) hx hb dX3_multiply_4 (by decide) ?_
  replace h := bnd h
  obtain ⟨v1, e1, h⟩ := h
  refine m_callSv (As := [.ref (adr 15), .long (Int64.ofInt (0))]) (rest := []) cx.fix hw (cc_J7_fill_d0a16 (l := l) (G := G) (sz := H.size) hi e1) (w_cS 2 hts q_292 q_265 q_266 q_267 rfl rfl (by decide) (by decide)) hl.1 rfl (lv_room (Nat.le_of_ble_eq_true rfl)) dX3_multiply_5 (fun H locs hw => ?_)
  refine lv_iconst (v := Int32.ofInt (0)) hx hb dX3_multiply_8 rfl ?_
  refine lv_istore (lv' := [(6, .int (Int32.ofInt (0))), (0, .ref (adr 1)), (1, .ref (adr a0)), (2, .ref (adr a1)), (3, .ref (adr a2)), (4, .int (Int32.ofInt a3)), (5, .ref (adr a4))]) hx hb dX3_multiply_9 hl (by decide) rfl (fun ls hl => ?_)
  replace h := bnd h
  obtain ⟨M14, j13, h⟩ := h
  refine lp_W (Wst := fun (st : MI × Int) => ∀ (ls : Array Slot) (H : Heap) (locs : List Loc), lv_has ls 10 [(0, .ref (adr 1)), (1, .ref (adr a0)), (2, .ref (adr a1)), (3, .ref (adr a2)), (4, .int (Int32.ofInt a3)), (5, .ref (adr a4)), (6, .int (Int32.ofInt st.2))] → wH G A s.heap s (LL adr) (wf G adr (tm st.1)) H locs → W p l e { frames := 1, cells := 0, slots := 0, locals := 25 } s m args below meth c H locs 0 0 Q (F0 m 11 ls [])) (fin := fun (r : MI) => ∀ (ls : Array Slot) (H : Heap) (locs : List Loc), lv_has ls 10 [(0, .ref (adr 1)), (3, .ref (adr a2)), (4, .int (Int32.ofInt a3)), (5, .ref (adr a4))] → wH G A s.heap s (LL adr) (wf G adr (tm r)) H locs → W p l e { frames := 1, cells := 0, slots := 0, locals := 25 } s m args below meth c H locs 0 0 Q (F0 m 71 ls [])) ?_ n _ _ j13 ?_ _ _ _ (lv_sub hl [1, 2, 3, 4, 5, 6, 0] rfl) hw
  · clear h j13 hw hl
    intro ⟨M2, v3⟩ x h k1 k2 ls H locs hl hw
    (try dsimp only at k1 k2 hl hw ⊢)
    unfold l_X3_multiply_11 at h
    (try dsimp only at h)
    refine lv_iload hx hb dX3_multiply_11 (lv_at hl 6 rfl) ?_
    refine lv_iload hx hb dX3_multiply_13 (lv_at hl 4 rfl) ?_
    replace h := bnd h
    obtain ⟨_, hg, h⟩ := h
    refine o_icmp_ge (tgt := 71) hx hb hg dX3_multiply_15 (by decide) (fun hc => ?_) (fun hc => ?_)
    · replace h := ite_t hc h
      cases h
      exact k1 _ rfl _ _ _ (lv_sub hl [0, 3, 4, 5] rfl) hw
    · replace h := ite_f hc h
      refine lv_iconst (v := Int32.ofInt (0)) hx hb dX3_multiply_18 rfl ?_
      refine lv_istore (lv' := [(7, .int (Int32.ofInt (0))), (0, .ref (adr 1)), (1, .ref (adr a0)), (2, .ref (adr a1)), (3, .ref (adr a2)), (4, .int (Int32.ofInt a3)), (5, .ref (adr a4)), (6, .int (Int32.ofInt v3))]) hx hb dX3_multiply_19 hl (by decide) rfl (fun ls hl => ?_)
      replace h := bnd h
      obtain ⟨M12, j11, h⟩ := h
      refine lp_W (Wst := fun (st : MI × Int) => ∀ (ls : Array Slot) (H : Heap) (locs : List Loc), lv_has ls 10 [(0, .ref (adr 1)), (1, .ref (adr a0)), (2, .ref (adr a1)), (3, .ref (adr a2)), (4, .int (Int32.ofInt a3)), (5, .ref (adr a4)), (6, .int (Int32.ofInt v3)), (7, .int (Int32.ofInt st.2))] → wH G A s.heap s (LL adr) (wf G adr (tm st.1)) H locs → W p l e { frames := 1, cells := 0, slots := 0, locals := 25 } s m args below meth c H locs 0 0 Q (F0 m 21 ls [])) (fin := fun (r : MI) => ∀ (ls : Array Slot) (H : Heap) (locs : List Loc), lv_has ls 10 [(0, .ref (adr 1)), (1, .ref (adr a0)), (2, .ref (adr a1)), (3, .ref (adr a2)), (4, .int (Int32.ofInt a3)), (5, .ref (adr a4)), (6, .int (Int32.ofInt v3))] → wH G A s.heap s (LL adr) (wf G adr (tm r)) H locs → W p l e { frames := 1, cells := 0, slots := 0, locals := 25 } s m args below meth c H locs 0 0 Q (F0 m 65 ls [])) ?_ n _ _ j11 ?_ _ _ _ (lv_sub hl [1, 2, 3, 4, 5, 6, 7, 0] rfl) hw
      · clear h j11 hw hl
        intro ⟨M4, v5⟩ x h k1 k2 ls H locs hl hw
        (try dsimp only at k1 k2 hl hw ⊢)
        unfold l_X3_multiply_21 at h
        (try dsimp only at h)
        refine lv_iload hx hb dX3_multiply_21 (lv_at hl 7 rfl) ?_
        refine lv_iload hx hb dX3_multiply_23 (lv_at hl 4 rfl) ?_
        replace h := bnd h
        obtain ⟨_, hg, h⟩ := h
        refine o_icmp_ge (tgt := 65) hx hb hg dX3_multiply_25 (by decide) (fun hc => ?_) (fun hc => ?_)
        · replace h := ite_t hc h
          cases h
          exact k1 _ rfl _ _ _ (lv_sub hl [0, 1, 2, 3, 4, 5, 6] rfl) hw
        · replace h := ite_f hc h
          refine lv_aload_n hx hb dX3_multiply_28 rfl (lv_at hl 1 rfl) ?_
          refine lv_iload hx hb dX3_multiply_29 (lv_at hl 6 rfl) ?_
          replace h := bnd h
          obtain ⟨v6, e6, h⟩ := h
          refine o_lald hx hb hi hw e6 dX3_multiply_31 ?_
          refine lv_lconst (v := Int64.ofInt (0)) hx hb dX3_multiply_32 (by decide) ?_
          replace h := bnd h
          obtain ⟨_, hg, h⟩ := h
          refine o_lcmp_eq (tgt := 65) hx hb hg dX3_multiply_33 dX3_multiply_34 (by decide) (fun hc => ?_) (fun hc => ?_)
          · replace h := ite_t hc h
            cases h
            exact k1 _ rfl _ _ _ (lv_sub hl [0, 1, 2, 3, 4, 5, 6] rfl) hw
          · replace h := ite_f hc h
            refine lv_aload_n hx hb dX3_multiply_37 rfl (lv_at hl 0 rfl) ?_
            refine m_get (k := 1) (C := RX3) (T := TX3) (N := 5) (ref := "LiftFactors$Field") (v := .ref (adr 15)) hx hb hi hts inX3_u hown hw (by decide) rfl 2 (by decide) q_305 rfl rfl dX3_multiply_38 ?_
            refine lv_iload hx hb dX3_multiply_41 (lv_at hl 6 rfl) ?_
            refine lv_iload hx hb dX3_multiply_43 (lv_at hl 7 rfl) ?_
            refine o_iadd hx hb dX3_multiply_45 ?_
            refine lv_dup2_11 hx hb dX3_multiply_46 rfl rfl ?_
            replace h := bnd h
            obtain ⟨v7, e7, h⟩ := h
            refine o_lald hx hb hi hw e7 dX3_multiply_47 ?_
            refine lv_aload_n hx hb dX3_multiply_48 rfl (lv_at hl 1 rfl) ?_
            refine lv_iload hx hb dX3_multiply_49 (lv_at hl 6 rfl) ?_
            replace h := bnd h
            obtain ⟨v8, e8, h⟩ := h
            refine o_lald hx hb hi hw e8 dX3_multiply_51 ?_
            refine lv_aload_n hx hb dX3_multiply_52 rfl (lv_at hl 2 rfl) ?_
            refine lv_iload hx hb dX3_multiply_53 (lv_at hl 7 rfl) ?_
            replace h := bnd h
            obtain ⟨v9, e9, h⟩ := h
            refine o_lald hx hb hi hw e9 dX3_multiply_55 ?_
            refine o_lmul hx hb dX3_multiply_56 ?_
            refine o_ladd hx hb dX3_multiply_57 ?_
            replace h := bnd h
            obtain ⟨v10, e10, h⟩ := h
            refine o_last hx hb hi hw e10 dX3_multiply_58 (fun H locs hw => ?_)
            refine lv_iinc (v := Int32.ofInt (v5 + 1)) (lv' := [(7, .int (Int32.ofInt (v5 + 1))), (0, .ref (adr 1)), (1, .ref (adr a0)), (2, .ref (adr a1)), (3, .ref (adr a2)), (4, .int (Int32.ofInt a3)), (5, .ref (adr a4)), (6, .int (Int32.ofInt v3))]) hx hb dX3_multiply_59 hl (k := 7) rfl (inc_o _ _) (by decide) rfl (fun ls hl => ?_)
            refine lv_goto (tgt := 21) hx hb dX3_multiply_62 (by decide) ?_
            cases h
            exact k2 _ rfl _ _ _ (lv_sub hl [1, 2, 3, 4, 5, 6, 7, 0] rfl) hw
      · clear hw hl
        intro ls H locs hl hw
        (try dsimp only at hl hw ⊢)
        refine lv_iinc (v := Int32.ofInt (v3 + 1)) (lv' := [(6, .int (Int32.ofInt (v3 + 1))), (0, .ref (adr 1)), (1, .ref (adr a0)), (2, .ref (adr a1)), (3, .ref (adr a2)), (4, .int (Int32.ofInt a3)), (5, .ref (adr a4))]) hx hb dX3_multiply_65 hl (k := 6) rfl (inc_o _ _) (by decide) rfl (fun ls hl => ?_)
        refine lv_goto (tgt := 11) hx hb dX3_multiply_68 (by decide) ?_
        cases h
        exact k2 _ rfl _ _ _ (lv_sub hl [1, 2, 3, 4, 5, 6, 0] rfl) hw
  · clear hw hl
    intro ls H locs hl hw
    (try dsimp only at hl hw ⊢)
    refine lv_iload hx hb dX3_multiply_71 (lv_at hl 2 rfl) ?_
    refine lv_iconst (v := Int32.ofInt (2)) hx hb dX3_multiply_73 rfl ?_
    refine o_isub hx hb dX3_multiply_74 ?_
    refine lv_istore (lv' := [(6, .int (Int32.ofInt (a3 - (2)))), (0, .ref (adr 1)), (3, .ref (adr a2)), (4, .int (Int32.ofInt a3)), (5, .ref (adr a4))]) hx hb dX3_multiply_75 hl (by decide) rfl (fun ls hl => ?_)
    replace h := bnd h
    obtain ⟨M27, j26, h⟩ := h
    refine lp_W (Wst := fun (st : MI × Int) => ∀ (ls : Array Slot) (H : Heap) (locs : List Loc), lv_has ls 10 [(0, .ref (adr 1)), (3, .ref (adr a2)), (4, .int (Int32.ofInt a3)), (5, .ref (adr a4)), (6, .int (Int32.ofInt st.2))] → wH G A s.heap s (LL adr) (wf G adr (tm st.1)) H locs → W p l e { frames := 1, cells := 0, slots := 0, locals := 25 } s m args below meth c H locs 0 0 Q (F0 m 77 ls [])) (fin := fun (r : MI) => ∀ (ls : Array Slot) (H : Heap) (locs : List Loc), lv_has ls 10 [(0, .ref (adr 1)), (4, .int (Int32.ofInt a3)), (5, .ref (adr a4))] → wH G A s.heap s (LL adr) (wf G adr (tm r)) H locs → W p l e { frames := 1, cells := 0, slots := 0, locals := 25 } s m args below meth c H locs 0 0 Q (F0 m 148 ls [])) ?_ n _ _ j26 ?_ _ _ _ (lv_sub hl [1, 2, 3, 4, 0] rfl) hw
    · clear h j26 hw hl
      intro ⟨M15, v16⟩ x h k1 k2 ls H locs hl hw
      (try dsimp only at k1 k2 hl hw ⊢)
      unfold l_X3_multiply_77 at h
      (try dsimp only at h)
      refine lv_iload hx hb dX3_multiply_77 (lv_at hl 4 rfl) ?_
      replace h := bnd h
      obtain ⟨_, hg, h⟩ := h
      refine o_if_lt (tgt := 148) hx hb hg dX3_multiply_79 (by decide) (fun hc => ?_) (fun hc => ?_)
      · replace h := ite_t hc h
        cases h
        exact k1 _ rfl _ _ _ (lv_sub hl [0, 2, 3] rfl) hw
      · replace h := ite_f hc h
        refine lv_aload_n hx hb dX3_multiply_82 rfl (lv_at hl 0 rfl) ?_
        refine m_get (k := 1) (C := RX3) (T := TX3) (N := 5) (ref := "LiftFactors$Field") (v := .ref (adr 15)) hx hb hi hts inX3_u hown hw (by decide) rfl 2 (by decide) q_305 rfl rfl dX3_multiply_83 ?_
        refine lv_iload hx hb dX3_multiply_86 (lv_at hl 4 rfl) ?_
        refine lv_iload hx hb dX3_multiply_88 (lv_at hl 2 rfl) ?_
        refine o_iadd hx hb dX3_multiply_90 ?_
        replace h := bnd h
        obtain ⟨v17, e17, h⟩ := h
        refine o_lald hx hb hi hw e17 dX3_multiply_91 ?_
        refine lv_aload_n hx hb dX3_multiply_92 rfl (lv_at hl 0 rfl) ?_
        refine m_get (k := 1) (C := RX3) (T := TX3) (N := 5) (ref := "LiftFactors$Field") (v := .long (Int64.ofInt (M15.1 1 0))) hx hb hi hts inX3_u hown hw (by decide) rfl 0 (by decide) q_275 rfl rfl dX3_multiply_93 ?_
        replace h := bnd h
        obtain ⟨v18, e18, h⟩ := h
        refine o_lrem hx hb e18 dX3_multiply_96 ?_
        refine lv_lstore (lv' := [(7, .long (Int64.ofInt v18)), (0, .ref (adr 1)), (3, .ref (adr a2)), (4, .int (Int32.ofInt a3)), (5, .ref (adr a4)), (6, .int (Int32.ofInt v16))]) hx hb dX3_multiply_97 hl (by decide) rfl (fun ls hl => ?_)
        refine lv_iconst (v := Int32.ofInt (0)) hx hb dX3_multiply_99 rfl ?_
        refine lv_istore (lv' := [(9, .int (Int32.ofInt (0))), (7, .long (Int64.ofInt v18)), (0, .ref (adr 1)), (3, .ref (adr a2)), (4, .int (Int32.ofInt a3)), (5, .ref (adr a4)), (6, .int (Int32.ofInt v16))]) hx hb dX3_multiply_100 hl (by decide) rfl (fun ls hl => ?_)
        replace h := bnd h
        obtain ⟨M25, j24, h⟩ := h
        refine lp_W (Wst := fun (st : MI × Int) => ∀ (ls : Array Slot) (H : Heap) (locs : List Loc), lv_has ls 10 [(0, .ref (adr 1)), (3, .ref (adr a2)), (4, .int (Int32.ofInt a3)), (5, .ref (adr a4)), (6, .int (Int32.ofInt v16)), (7, .long (Int64.ofInt v18)), (9, .int (Int32.ofInt st.2))] → wH G A s.heap s (LL adr) (wf G adr (tm st.1)) H locs → W p l e { frames := 1, cells := 0, slots := 0, locals := 25 } s m args below meth c H locs 0 0 Q (F0 m 102 ls [])) (fin := fun (r : MI) => ∀ (ls : Array Slot) (H : Heap) (locs : List Loc), lv_has ls 10 [(0, .ref (adr 1)), (3, .ref (adr a2)), (4, .int (Int32.ofInt a3)), (5, .ref (adr a4)), (6, .int (Int32.ofInt v16))] → wH G A s.heap s (LL adr) (wf G adr (tm r)) H locs → W p l e { frames := 1, cells := 0, slots := 0, locals := 25 } s m args below meth c H locs 0 0 Q (F0 m 142 ls [])) ?_ n _ _ j24 ?_ _ _ _ (lv_sub hl [2, 3, 4, 5, 6, 1, 0] rfl) hw
        · clear h j24 hw hl
          intro ⟨M19, v20⟩ x h k1 k2 ls H locs hl hw
          (try dsimp only at k1 k2 hl hw ⊢)
          unfold l_X3_multiply_102 at h
          (try dsimp only at h)
          refine lv_iload hx hb dX3_multiply_102 (lv_at hl 6 rfl) ?_
          refine lv_iload hx hb dX3_multiply_104 (lv_at hl 2 rfl) ?_
          replace h := bnd h
          obtain ⟨_, hg, h⟩ := h
          refine o_icmp_ge (tgt := 142) hx hb hg dX3_multiply_106 (by decide) (fun hc => ?_) (fun hc => ?_)
          · replace h := ite_t hc h
            cases h
            exact k1 _ rfl _ _ _ (lv_sub hl [0, 1, 2, 3, 4] rfl) hw
          · replace h := ite_f hc h
            refine lv_lload hx hb dX3_multiply_109 (lv_at hl 5 rfl) ?_
            refine lv_lconst (v := Int64.ofInt (0)) hx hb dX3_multiply_111 (by decide) ?_
            replace h := bnd h
            obtain ⟨_, hg, h⟩ := h
            refine o_lcmp_eq (tgt := 142) hx hb hg dX3_multiply_112 dX3_multiply_113 (by decide) (fun hc => ?_) (fun hc => ?_)
            · replace h := ite_t hc h
              cases h
              exact k1 _ rfl _ _ _ (lv_sub hl [0, 1, 2, 3, 4] rfl) hw
            · replace h := ite_f hc h
              refine lv_aload_n hx hb dX3_multiply_116 rfl (lv_at hl 0 rfl) ?_
              refine m_get (k := 1) (C := RX3) (T := TX3) (N := 5) (ref := "LiftFactors$Field") (v := .ref (adr 15)) hx hb hi hts inX3_u hown hw (by decide) rfl 2 (by decide) q_305 rfl rfl dX3_multiply_117 ?_
              refine lv_iload hx hb dX3_multiply_120 (lv_at hl 4 rfl) ?_
              refine lv_iload hx hb dX3_multiply_122 (lv_at hl 6 rfl) ?_
              refine o_iadd hx hb dX3_multiply_124 ?_
              refine lv_dup2_11 hx hb dX3_multiply_125 rfl rfl ?_
              replace h := bnd h
              obtain ⟨v21, e21, h⟩ := h
              refine o_lald hx hb hi hw e21 dX3_multiply_126 ?_
              refine lv_lload hx hb dX3_multiply_127 (lv_at hl 5 rfl) ?_
              refine lv_aload_n hx hb dX3_multiply_129 rfl (lv_at hl 1 rfl) ?_
              refine lv_iload hx hb dX3_multiply_130 (lv_at hl 6 rfl) ?_
              replace h := bnd h
              obtain ⟨v22, e22, h⟩ := h
              refine o_lald hx hb hi hw e22 dX3_multiply_132 ?_
              refine o_lmul hx hb dX3_multiply_133 ?_
              refine o_lsub hx hb dX3_multiply_134 ?_
              replace h := bnd h
              obtain ⟨v23, e23, h⟩ := h
              refine o_last hx hb hi hw e23 dX3_multiply_135 (fun H locs hw => ?_)
              refine lv_iinc (v := Int32.ofInt (v20 + 1)) (lv' := [(9, .int (Int32.ofInt (v20 + 1))), (0, .ref (adr 1)), (3, .ref (adr a2)), (4, .int (Int32.ofInt a3)), (5, .ref (adr a4)), (6, .int (Int32.ofInt v16)), (7, .long (Int64.ofInt v18))]) hx hb dX3_multiply_136 hl (k := 6) rfl (inc_o _ _) (by decide) rfl (fun ls hl => ?_)
              refine lv_goto (tgt := 102) hx hb dX3_multiply_139 (by decide) ?_
              cases h
              exact k2 _ rfl _ _ _ (lv_sub hl [1, 2, 3, 4, 5, 6, 0] rfl) hw
        · clear hw hl
          intro ls H locs hl hw
          (try dsimp only at hl hw ⊢)
          refine lv_iinc (v := Int32.ofInt (v16 + (-1))) (lv' := [(6, .int (Int32.ofInt (v16 + (-1)))), (0, .ref (adr 1)), (3, .ref (adr a2)), (4, .int (Int32.ofInt a3)), (5, .ref (adr a4))]) hx hb dX3_multiply_142 hl (k := 4) rfl (inc_o _ _) (by decide) rfl (fun ls hl => ?_)
          refine lv_goto (tgt := 77) hx hb dX3_multiply_145 (by decide) ?_
          cases h
          exact k2 _ rfl _ _ _ (lv_sub hl [1, 2, 3, 4, 0] rfl) hw
    · clear hw hl
      intro ls H locs hl hw
      (try dsimp only at hl hw ⊢)
      refine lv_iconst (v := Int32.ofInt (0)) hx hb dX3_multiply_148 rfl ?_
      refine lv_istore (lv' := [(6, .int (Int32.ofInt (0))), (0, .ref (adr 1)), (4, .int (Int32.ofInt a3)), (5, .ref (adr a4))]) hx hb dX3_multiply_149 hl (by decide) rfl (fun ls hl => ?_)
      replace h := bnd h
      obtain ⟨M36, j35, h⟩ := h
      refine lp_W (Wst := fun (st : MI × Int) => ∀ (ls : Array Slot) (H : Heap) (locs : List Loc), lv_has ls 10 [(0, .ref (adr 1)), (4, .int (Int32.ofInt a3)), (5, .ref (adr a4)), (6, .int (Int32.ofInt st.2))] → wH G A s.heap s (LL adr) (wf G adr (tm st.1)) H locs → W p l e { frames := 1, cells := 0, slots := 0, locals := 25 } s m args below meth c H locs 0 0 Q (F0 m 151 ls [])) (fin := fun (r : MI) => ∀ (ls : Array Slot) (H : Heap) (locs : List Loc), lv_has ls 10 [] → wH G A s.heap s (LL adr) (wf G adr (tm r)) H locs → W p l e { frames := 1, cells := 0, slots := 0, locals := 25 } s m args below meth c H locs 0 0 Q (F0 m 194 ls [])) ?_ n _ _ j35 ?_ _ _ _ (lv_sub hl [1, 2, 3, 0] rfl) hw
      · clear h j35 hw hl
        intro ⟨M28, v29⟩ x h k1 k2 ls H locs hl hw
        (try dsimp only at k1 k2 hl hw ⊢)
        unfold l_X3_multiply_151 at h
        (try dsimp only at h)
        refine lv_iload hx hb dX3_multiply_151 (lv_at hl 3 rfl) ?_
        refine lv_bipush (v := Int32.ofInt (11)) hx hb dX3_multiply_153 rfl ?_
        replace h := bnd h
        obtain ⟨_, hg, h⟩ := h
        refine o_icmp_ge (tgt := 194) hx hb hg dX3_multiply_155 (by decide) (fun hc => ?_) (fun hc => ?_)
        · replace h := ite_t hc h
          cases h
          exact k1 _ rfl _ _ _ (lv_sub hl [] rfl) hw
        · replace h := ite_f hc h
          refine lv_aload hx hb dX3_multiply_158 (lv_at hl 2 rfl) ?_
          refine lv_iload hx hb dX3_multiply_160 (lv_at hl 3 rfl) ?_
          refine lv_iload hx hb dX3_multiply_162 (lv_at hl 3 rfl) ?_
          refine lv_iload hx hb dX3_multiply_164 (lv_at hl 1 rfl) ?_
          replace h := bnd h
          obtain ⟨v32, j34, h⟩ := h
          have kj : ∀ (ls : Array Slot) (H : Heap) (locs : List Loc), lv_has ls 10 [(0, .ref (adr 1)), (4, .int (Int32.ofInt a3)), (5, .ref (adr a4)), (6, .int (Int32.ofInt v29))] → wH G A s.heap s (LL adr) (wf G adr (tm M28)) H locs → W p l e { frames := 1, cells := 0, slots := 0, locals := 25 } s m args below meth c H locs 0 0 Q (F0 m 187 ls [.long (Int64.ofInt v32), .int (Int32.ofInt v29), .ref (adr a4)]) := by
            intro ls H locs hl hw
            replace h := bnd h
            obtain ⟨v33, e33, h⟩ := h
            refine o_last hx hb hi hw e33 dX3_multiply_187 (fun H locs hw => ?_)
            refine lv_iinc (v := Int32.ofInt (v29 + 1)) (lv' := [(6, .int (Int32.ofInt (v29 + 1))), (0, .ref (adr 1)), (4, .int (Int32.ofInt a3)), (5, .ref (adr a4))]) hx hb dX3_multiply_188 hl (k := 3) rfl (inc_o _ _) (by decide) rfl (fun ls hl => ?_)
            refine lv_goto (tgt := 151) hx hb dX3_multiply_191 (by decide) ?_
            cases h
            exact k2 _ rfl _ _ _ (lv_sub hl [1, 2, 3, 0] rfl) hw
          clear h
          replace h := j34
          clear j34
          replace h := bnd h
          obtain ⟨_, hg, h⟩ := h
          refine o_icmp_ge (tgt := 186) hx hb hg dX3_multiply_166 (by decide) (fun hc => ?_) (fun hc => ?_)
          · replace h := ite_t hc h
            refine lv_lconst (v := Int64.ofInt (0)) hx hb dX3_multiply_186 (by decide) ?_
            cases h
            exact kj _ _ _ (lv_sub hl [0, 1, 2, 3] rfl) hw
          · replace h := ite_f hc h
            refine lv_aload_n hx hb dX3_multiply_169 rfl (lv_at hl 0 rfl) ?_
            refine m_get (k := 1) (C := RX3) (T := TX3) (N := 5) (ref := "LiftFactors$Field") (v := .ref (adr 15)) hx hb hi hts inX3_u hown hw (by decide) rfl 2 (by decide) q_305 rfl rfl dX3_multiply_170 ?_
            refine lv_iload hx hb dX3_multiply_173 (lv_at hl 3 rfl) ?_
            replace h := bnd h
            obtain ⟨v30, e30, h⟩ := h
            refine o_lald hx hb hi hw e30 dX3_multiply_175 ?_
            refine lv_aload_n hx hb dX3_multiply_176 rfl (lv_at hl 0 rfl) ?_
            refine m_get (k := 1) (C := RX3) (T := TX3) (N := 5) (ref := "LiftFactors$Field") (v := .long (Int64.ofInt (M28.1 1 0))) hx hb hi hts inX3_u hown hw (by decide) rfl 0 (by decide) q_275 rfl rfl dX3_multiply_177 ?_
            replace h := bnd h
            obtain ⟨v31, e31, h⟩ := h
            refine m_callSl (As := [.long (Int64.ofInt v30), .long (Int64.ofInt (M28.1 1 0))]) (rest := [.int (Int32.ofInt v29), .ref (adr a4)]) cx.fix hw (cc_J9_floorMod_f86c9 (l := l) (G := G) (sz := H.size) (M := M28) hi e31) (w_cS 2 hts q_276 q_277 q_278 q_279 rfl rfl (by decide) (by decide)) hl.1 rfl (lv_room (Nat.le_of_ble_eq_true rfl)) dX3_multiply_180 (fun H locs hw => ?_)
            refine lv_goto (tgt := 187) hx hb dX3_multiply_183 (by decide) ?_
            cases h
            exact kj _ _ _ (lv_sub hl [0, 1, 2, 3] rfl) hw
      · clear hw hl
        intro ls H locs hl hw
        (try dsimp only at hl hw ⊢)
        cases h
        exact kr _ _ _ _ dX3_multiply_194 hw
theorem cc_X3_multiply {l : Launch} {G : gG} {adr : Nat → Nat} {sz : Nat} (hi : adi adr) {n : Nat} {a0 : Nat} {a1 : Nat} {a2 : Nat} {a3 : Int} {a4 : Nat} {M M' : MI} (h : f_X3_multiply n a0 a1 a2 a3 a4 M = some M') : mV l yX3_multiply cX3_multiply 10 none { frames := 1, cells := 0, slots := 0, locals := 25 } G adr [.ref (adr 1), .ref (adr a0), .ref (adr a1), .ref (adr a2), .int (Int32.ofInt a3), .ref (adr a4)] (tm M) sz (tm M') := by
  refine wEnter (by decide) (Nat.le_of_ble_eq_true rfl) ?_
  intro p e s m below meth c ls cx hinit hl hsz hw
  exact b_X3_multiply cx hi h (fun pc ls H locs hd hw => w_vret (post := fun (u : Mem) => u = tm M') (lf := fun u => (LL adr, wf G adr u)) cx.1 cx.2.1 cx.2.2.1 cx.2.2.2.2.2.2 (tm M') hw rfl hd) hl hw
theorem q_306 : Cond.methodLink RX3 65 yX3_multiply ∈ uU := uU_in (by decide +kernel) (by decide +kernel)
theorem q_307 : Cond.instanceMethod yX3_multiply ∈ uU := uU_in (by decide +kernel) (by decide +kernel)
theorem q_308 : Cond.selects yX3_multiply.cls yX3_multiply yX3_multiply ∈ uU := uU_in (by decide +kernel) (by decide +kernel)
theorem q_309 : Cond.initialized yX3_multiply.cls ∈ uU := uU_in (by decide +kernel) (by decide +kernel)
theorem q_310 : Cond.code yX3_multiply cX3_multiply 10 none ∈ uU := uU_in (by decide +kernel) (by decide +kernel)
def l_X3_raise_15 (n : Nat) (a0 : Nat) (a1 : Int) (a2 : Nat) (a3 : Int) (a4 : Nat) : MI × Int → Option ((MI) ⊕ (MI × Int)) := fun (M3, v4) =>
  Option.bind (gI v4 0) fun _ =>
  if v4 < 0 then
    some (.inl M3)
  else
    Option.bind (
      Option.bind (gJ (oshrJ a1 v4) (1)) fun _ =>
      if (oshrJ a1 v4) ≤ (1) then
        some M3
      else
        Option.bind (f_X3_multiply n a4 a4 a2 a3 a4 M3) fun v5 =>
        some v5) fun M6 =>
    Option.bind (
      Option.bind (gJ (oandJ (oshrJ a1 v4) (1)) (1)) fun _ =>
      if (oandJ (oshrJ a1 v4) (1)) = (1) then
        Option.bind (f_X3_multiply n a4 a0 a2 a3 a4 M6) fun v7 =>
        some v7
      else
        some M6) fun M8 =>
    some (.inr (M8, v4 + (-1)))
def f_X3_raise (n : Nat) (a0 : Nat) (a1 : Int) (a2 : Nat) (a3 : Int) (a4 : Nat) (M : MI) : Option MI :=
  Option.bind (f_J7_fill_d0a16 n a4 (0) M) fun v1 =>
  Option.bind (osJ v1 a4 (0) (1)) fun v2 =>
  Option.bind (lpF (l_X3_raise_15 n a0 a1 a2 a3 a4) n (v2, (30))) fun M12 =>
  some M12
set_option maxRecDepth 100000 in
set_option maxHeartbeats 8000000 in
theorem b_X3_raise {p : Program} {l : Launch} {e : Env} {s : State} {m : MethodId} {args : Array Value} {below : List Frame} {meth : Method} {c : Code} {Q : State → Prop} {G : gG} {A : Nat → Prop} {adr : Nat → Nat} (cx : cX p s m args meth c cX3_raise none 10 yX3_raise.cls) (hi : adi adr) {n : Nat} {a0 : Nat} {a1 : Int} {a2 : Nat} {a3 : Int} {a4 : Nat} {M M' : MI} 
    (h : f_X3_raise n a0 a1 a2 a3 a4 M = some M')
    (kr : ∀ (pc : Nat) (ls : Array Slot) (H : Heap) (locs : List Loc), decode cX3_raise pc = .ok (.return_, 1) → wH G A s.heap s (LL adr) (wf G adr (tm M')) H locs → W p l e { frames := 2, cells := 0, slots := 0, locals := 54 } s m args below meth c H locs 0 0 Q (F0 m pc ls []))
    {ls : Array Slot} {H : Heap} {locs : List Loc} (hl : lv_has ls 10 [(0, .ref (adr 1)), (1, .ref (adr a0)), (2, .long (Int64.ofInt a1)), (4, .ref (adr a2)), (5, .int (Int32.ofInt a3)), (6, .ref (adr a4))]) (hw : wH G A s.heap s (LL adr) (wf G adr (tm M)) H locs) : W p l e { frames := 2, cells := 0, slots := 0, locals := 54 } s m args below meth c H locs 0 0 Q (F0 m 0 ls []) := by
  obtain ⟨hx, hb, -, -, hown, hts, -⟩ := id cx
  have hown : s.vm.findClass RX3 = some m.cls := hown
  unfold f_X3_raise at h
  refine lv_aload hx hb dX3_raise_0 (lv_at hl 5 rfl) ?_
  refine lv_lconst (v := Int64.ofInt (0)) hx hb dX3_raise_2 (by decide) ?_
  replace h := bnd h
  obtain ⟨v1, e1, h⟩ := h
  refine m_callSv (As := [.ref (adr a4), .long (Int64.ofInt (0))]) (rest := []) cx.fix hw (cc_J7_fill_d0a16 (l := l) (G := G) (sz := H.size) hi e1) (w_cS 2 hts q_292 q_265 q_266 q_267 rfl rfl (by decide) (by decide)) hl.1 rfl (lv_room (Nat.le_of_ble_eq_true rfl)) dX3_raise_3 (fun H locs hw => ?_)
  refine lv_aload hx hb dX3_raise_6 (lv_at hl 5 rfl) ?_
  refine lv_iconst (v := Int32.ofInt (0)) hx hb dX3_raise_8 rfl ?_
  refine lv_lconst (v := Int64.ofInt (1)) hx hb dX3_raise_9 (by decide) ?_
  replace h := bnd h
  obtain ⟨v2, e2, h⟩ := h
  refine o_last hx hb hi hw e2 dX3_raise_10 (fun H locs hw => ?_)
  refine lv_bipush (v := Int32.ofInt (30)) hx hb dX3_raise_11 rfl ?_
  refine lv_istore (lv' := [(7, .int (Int32.ofInt (30))), (0, .ref (adr 1)), (1, .ref (adr a0)), (2, .long (Int64.ofInt a1)), (4, .ref (adr a2)), (5, .int (Int32.ofInt a3)), (6, .ref (adr a4))]) hx hb dX3_raise_13 hl (by decide) rfl (fun ls hl => ?_)
  replace h := bnd h
  obtain ⟨M12, j11, h⟩ := h
  refine lp_W (Wst := fun (st : MI × Int) => ∀ (ls : Array Slot) (H : Heap) (locs : List Loc), lv_has ls 10 [(0, .ref (adr 1)), (1, .ref (adr a0)), (2, .long (Int64.ofInt a1)), (4, .ref (adr a2)), (5, .int (Int32.ofInt a3)), (6, .ref (adr a4)), (7, .int (Int32.ofInt st.2))] → wH G A s.heap s (LL adr) (wf G adr (tm st.1)) H locs → W p l e { frames := 2, cells := 0, slots := 0, locals := 54 } s m args below meth c H locs 0 0 Q (F0 m 15 ls [])) (fin := fun (r : MI) => ∀ (ls : Array Slot) (H : Heap) (locs : List Loc), lv_has ls 10 [] → wH G A s.heap s (LL adr) (wf G adr (tm r)) H locs → W p l e { frames := 2, cells := 0, slots := 0, locals := 54 } s m args below meth c H locs 0 0 Q (F0 m 75 ls [])) ?_ n _ _ j11 ?_ _ _ _ (lv_sub hl [1, 2, 3, 4, 5, 6, 0] rfl) hw
  · clear h j11 hw hl
    intro ⟨M3, v4⟩ x h k1 k2 ls H locs hl hw
    (try dsimp only at k1 k2 hl hw ⊢)
    unfold l_X3_raise_15 at h
    (try dsimp only at h)
    refine lv_iload hx hb dX3_raise_15 (lv_at hl 6 rfl) ?_
    replace h := bnd h
    obtain ⟨_, hg, h⟩ := h
    refine o_if_lt (tgt := 75) hx hb hg dX3_raise_17 (by decide) (fun hc => ?_) (fun hc => ?_)
    · replace h := ite_t hc h
      cases h
      exact k1 _ rfl _ _ _ (lv_sub hl [] rfl) hw
    · replace h := ite_f hc h
      refine lv_lload_n hx hb dX3_raise_20 rfl (lv_at hl 2 rfl) ?_
      refine lv_iload hx hb dX3_raise_21 (lv_at hl 6 rfl) ?_
      refine o_lshr hx hb dX3_raise_23 ?_
      refine lv_lstore (lv' := [(8, .long (Int64.ofInt (oshrJ a1 v4))), (0, .ref (adr 1)), (1, .ref (adr a0)), (2, .long (Int64.ofInt a1)), (4, .ref (adr a2)), (5, .int (Int32.ofInt a3)), (6, .ref (adr a4)), (7, .int (Int32.ofInt v4))]) hx hb dX3_raise_24 hl (by decide) rfl (fun ls hl => ?_)
      refine lv_lload hx hb dX3_raise_26 (lv_at hl 0 rfl) ?_
      refine lv_lconst (v := Int64.ofInt (1)) hx hb dX3_raise_28 (by decide) ?_
      replace h := bnd h
      obtain ⟨M6, j10, h⟩ := h
      have kj : ∀ (ls : Array Slot) (H : Heap) (locs : List Loc), lv_has ls 10 [(0, .ref (adr 1)), (1, .ref (adr a0)), (2, .long (Int64.ofInt a1)), (4, .ref (adr a2)), (5, .int (Int32.ofInt a3)), (6, .ref (adr a4)), (7, .int (Int32.ofInt v4)), (8, .long (Int64.ofInt (oshrJ a1 v4)))] → wH G A s.heap s (LL adr) (wf G adr (tm M6)) H locs → W p l e { frames := 2, cells := 0, slots := 0, locals := 54 } s m args below meth c H locs 0 0 Q (F0 m 47 ls []) := by
        intro ls H locs hl hw
        refine lv_lload hx hb dX3_raise_47 (lv_at hl 7 rfl) ?_
        refine lv_lconst (v := Int64.ofInt (1)) hx hb dX3_raise_49 (by decide) ?_
        refine o_land hx hb dX3_raise_50 ?_
        refine lv_lconst (v := Int64.ofInt (1)) hx hb dX3_raise_51 (by decide) ?_
        replace h := bnd h
        obtain ⟨M8, j9, h⟩ := h
        have kj : ∀ (ls : Array Slot) (H : Heap) (locs : List Loc), lv_has ls 10 [(0, .ref (adr 1)), (1, .ref (adr a0)), (2, .long (Int64.ofInt a1)), (4, .ref (adr a2)), (5, .int (Int32.ofInt a3)), (6, .ref (adr a4)), (7, .int (Int32.ofInt v4))] → wH G A s.heap s (LL adr) (wf G adr (tm M8)) H locs → W p l e { frames := 2, cells := 0, slots := 0, locals := 54 } s m args below meth c H locs 0 0 Q (F0 m 69 ls []) := by
          intro ls H locs hl hw
          refine lv_iinc (v := Int32.ofInt (v4 + (-1))) (lv' := [(7, .int (Int32.ofInt (v4 + (-1)))), (0, .ref (adr 1)), (1, .ref (adr a0)), (2, .long (Int64.ofInt a1)), (4, .ref (adr a2)), (5, .int (Int32.ofInt a3)), (6, .ref (adr a4))]) hx hb dX3_raise_69 hl (k := 6) rfl (inc_o _ _) (by decide) rfl (fun ls hl => ?_)
          refine lv_goto (tgt := 15) hx hb dX3_raise_72 (by decide) ?_
          cases h
          exact k2 _ rfl _ _ _ (lv_sub hl [1, 2, 3, 4, 5, 6, 0] rfl) hw
        clear h
        replace h := j9
        clear j9
        replace h := bnd h
        obtain ⟨_, hg, h⟩ := h
        refine o_lcmp_ne (tgt := 69) hx hb hg dX3_raise_52 dX3_raise_53 (by decide) (fun hc => ?_) (fun hc => ?_)
        · replace h := ite_f hc h
          cases h
          exact kj _ _ _ (lv_sub hl [0, 1, 2, 3, 4, 5, 6] rfl) hw
        · replace h := ite_t hc h
          refine lv_aload_n hx hb dX3_raise_56 rfl (lv_at hl 0 rfl) ?_
          refine lv_aload hx hb dX3_raise_57 (lv_at hl 5 rfl) ?_
          refine lv_aload_n hx hb dX3_raise_59 rfl (lv_at hl 1 rfl) ?_
          refine lv_aload hx hb dX3_raise_60 (lv_at hl 3 rfl) ?_
          refine lv_iload hx hb dX3_raise_62 (lv_at hl 4 rfl) ?_
          refine lv_aload hx hb dX3_raise_64 (lv_at hl 5 rfl) ?_
          replace h := bnd h
          obtain ⟨v7, e7, h⟩ := h
          refine m_callVv (k := 1) (As := [.ref (adr a4), .ref (adr a0), .ref (adr a2), .int (Int32.ofInt a3), .ref (adr a4)]) (rest := []) cx.fix hi hw (cc_X3_multiply (l := l) (G := G) (sz := H.size) hi e7) (by decide) rfl rfl (w_cV 5 hts q_306 q_307 q_308 q_309 q_310 rfl rfl (by decide) (by decide)) hl.1 rfl (lv_room (Nat.le_of_ble_eq_true rfl)) dX3_raise_66 (fun H locs hw => ?_)
          cases h
          exact kj _ _ _ (lv_sub hl [0, 1, 2, 3, 4, 5, 6] rfl) hw
      clear h
      replace h := j10
      clear j10
      replace h := bnd h
      obtain ⟨_, hg, h⟩ := h
      refine o_lcmp_le (tgt := 47) hx hb hg dX3_raise_29 dX3_raise_30 (by decide) (fun hc => ?_) (fun hc => ?_)
      · replace h := ite_t hc h
        cases h
        exact kj _ _ _ (lv_sub hl [1, 2, 3, 4, 5, 6, 7, 0] rfl) hw
      · replace h := ite_f hc h
        refine lv_aload_n hx hb dX3_raise_33 rfl (lv_at hl 1 rfl) ?_
        refine lv_aload hx hb dX3_raise_34 (lv_at hl 6 rfl) ?_
        refine lv_aload hx hb dX3_raise_36 (lv_at hl 6 rfl) ?_
        refine lv_aload hx hb dX3_raise_38 (lv_at hl 4 rfl) ?_
        refine lv_iload hx hb dX3_raise_40 (lv_at hl 5 rfl) ?_
        refine lv_aload hx hb dX3_raise_42 (lv_at hl 6 rfl) ?_
        replace h := bnd h
        obtain ⟨v5, e5, h⟩ := h
        refine m_callVv (k := 1) (As := [.ref (adr a4), .ref (adr a4), .ref (adr a2), .int (Int32.ofInt a3), .ref (adr a4)]) (rest := []) cx.fix hi hw (cc_X3_multiply (l := l) (G := G) (sz := H.size) hi e5) (by decide) rfl rfl (w_cV 5 hts q_306 q_307 q_308 q_309 q_310 rfl rfl (by decide) (by decide)) hl.1 rfl (lv_room (Nat.le_of_ble_eq_true rfl)) dX3_raise_44 (fun H locs hw => ?_)
        cases h
        exact kj _ _ _ (lv_sub hl [1, 2, 3, 4, 5, 6, 7, 0] rfl) hw
  · clear hw hl
    intro ls H locs hl hw
    (try dsimp only at hl hw ⊢)
    cases h
    exact kr _ _ _ _ dX3_raise_75 hw
theorem cc_X3_raise {l : Launch} {G : gG} {adr : Nat → Nat} {sz : Nat} (hi : adi adr) {n : Nat} {a0 : Nat} {a1 : Int} {a2 : Nat} {a3 : Int} {a4 : Nat} {M M' : MI} (h : f_X3_raise n a0 a1 a2 a3 a4 M = some M') : mV l yX3_raise cX3_raise 10 none { frames := 2, cells := 0, slots := 0, locals := 54 } G adr [.ref (adr 1), .ref (adr a0), .long (Int64.ofInt a1), .ref (adr a2), .int (Int32.ofInt a3), .ref (adr a4)] (tm M) sz (tm M') := by
  refine wEnter (by decide) (Nat.le_of_ble_eq_true rfl) ?_
  intro p e s m below meth c ls cx hinit hl hsz hw
  exact b_X3_raise cx hi h (fun pc ls H locs hd hw => w_vret (post := fun (u : Mem) => u = tm M') (lf := fun u => (LL adr, wf G adr u)) cx.1 cx.2.1 cx.2.2.1 cx.2.2.2.2.2.2 (tm M') hw rfl hd) hl hw
def f_X3_nearest (a0 : Int) (M : MI) : Option Int :=
  Option.bind (f_J9_floorMod_f86c9 a0 (M.1 1 0)) fun v1 =>
  Option.bind (oqJ (M.1 1 0) (2)) fun v2 =>
  Option.bind (
    Option.bind (gJ v1 v2) fun _ =>
    if v1 ≤ v2 then
      some v1
    else
      some (v1 - (M.1 1 0))) fun v3 =>
  some v3
set_option maxRecDepth 100000 in
set_option maxHeartbeats 8000000 in
theorem b_X3_nearest {p : Program} {l : Launch} {e : Env} {s : State} {m : MethodId} {args : Array Value} {below : List Frame} {meth : Method} {c : Code} {Q : State → Prop} {G : gG} {A : Nat → Prop} {adr : Nat → Nat} (cx : cX p s m args meth c cX3_nearest (some .long) 5 yX3_nearest.cls) (hi : adi adr) {a0 : Int} {M : MI} {r : Int} 
    (h : f_X3_nearest a0 M = some r)
    (kr : ∀ (pc : Nat) (ls : Array Slot) (H : Heap) (locs : List Loc), decode cX3_nearest pc = .ok (.lreturn, 1) → wH G A s.heap s (LL adr) (wf G adr (tm M)) H locs → W p l e { frames := 1, cells := 0, slots := 0, locals := 25 } s m args below meth c H locs 0 0 Q (F0 m pc ls [.long (Int64.ofInt r)]))
    {ls : Array Slot} {H : Heap} {locs : List Loc} (hl : lv_has ls 5 [(0, .ref (adr 1)), (1, .long (Int64.ofInt a0))]) (hw : wH G A s.heap s (LL adr) (wf G adr (tm M)) H locs) : W p l e { frames := 1, cells := 0, slots := 0, locals := 25 } s m args below meth c H locs 0 0 Q (F0 m 0 ls []) := by
  obtain ⟨hx, hb, -, -, hown, hts, -⟩ := id cx
  have hown : s.vm.findClass RX3 = some m.cls := hown
  unfold f_X3_nearest at h
  refine lv_lload_n hx hb dX3_nearest_0 rfl (lv_at hl 1 rfl) ?_
  refine lv_aload_n hx hb dX3_nearest_1 rfl (lv_at hl 0 rfl) ?_
  refine m_get (k := 1) (C := RX3) (T := TX3) (N := 5) (ref := "LiftFactors$Field") (v := .long (Int64.ofInt (M.1 1 0))) hx hb hi hts inX3_u hown hw (by decide) rfl 0 (by decide) q_275 rfl rfl dX3_nearest_2 ?_
  replace h := bnd h
  obtain ⟨v1, e1, h⟩ := h
  refine m_callSl (As := [.long (Int64.ofInt a0), .long (Int64.ofInt (M.1 1 0))]) (rest := []) cx.fix hw (cc_J9_floorMod_f86c9 (l := l) (G := G) (sz := H.size) (M := M) hi e1) (w_cS 2 hts q_276 q_277 q_278 q_279 rfl rfl (by decide) (by decide)) hl.1 rfl (lv_room (Nat.le_of_ble_eq_true rfl)) dX3_nearest_5 (fun H locs hw => ?_)
  refine lv_lstore_n (lv' := [(3, .long (Int64.ofInt v1)), (0, .ref (adr 1)), (1, .long (Int64.ofInt a0))]) hx hb dX3_nearest_8 rfl hl (by decide) rfl (fun ls hl => ?_)
  refine lv_lload_n hx hb dX3_nearest_9 rfl (lv_at hl 0 rfl) ?_
  refine lv_aload_n hx hb dX3_nearest_10 rfl (lv_at hl 1 rfl) ?_
  refine m_get (k := 1) (C := RX3) (T := TX3) (N := 5) (ref := "LiftFactors$Field") (v := .long (Int64.ofInt (M.1 1 0))) hx hb hi hts inX3_u hown hw (by decide) rfl 0 (by decide) q_275 rfl rfl dX3_nearest_11 ?_
  refine lv_ldc2 (v := Int64.ofInt (2)) hx hb hown (hts _ q_270) dX3_nearest_14 ?_
  replace h := bnd h
  obtain ⟨v2, e2, h⟩ := h
  refine o_ldiv hx hb e2 dX3_nearest_17 ?_
  replace h := bnd h
  obtain ⟨v3, j4, h⟩ := h
  have kj : ∀ (ls : Array Slot) (H : Heap) (locs : List Loc), lv_has ls 5 [] → wH G A s.heap s (LL adr) (wf G adr (tm M)) H locs → W p l e { frames := 1, cells := 0, slots := 0, locals := 25 } s m args below meth c H locs 0 0 Q (F0 m 32 ls [.long (Int64.ofInt v3)]) := by
    intro ls H locs hl hw
    cases h
    exact kr _ _ _ _ dX3_nearest_32 hw
  clear h
  replace h := j4
  clear j4
  replace h := bnd h
  obtain ⟨_, hg, h⟩ := h
  refine o_lcmp_le (tgt := 31) hx hb hg dX3_nearest_18 dX3_nearest_19 (by decide) (fun hc => ?_) (fun hc => ?_)
  · replace h := ite_t hc h
    refine lv_lload_n hx hb dX3_nearest_31 rfl (lv_at hl 0 rfl) ?_
    cases h
    exact kj _ _ _ (lv_sub hl [] rfl) hw
  · replace h := ite_f hc h
    refine lv_lload_n hx hb dX3_nearest_22 rfl (lv_at hl 0 rfl) ?_
    refine lv_aload_n hx hb dX3_nearest_23 rfl (lv_at hl 1 rfl) ?_
    refine m_get (k := 1) (C := RX3) (T := TX3) (N := 5) (ref := "LiftFactors$Field") (v := .long (Int64.ofInt (M.1 1 0))) hx hb hi hts inX3_u hown hw (by decide) rfl 0 (by decide) q_275 rfl rfl dX3_nearest_24 ?_
    refine o_lsub hx hb dX3_nearest_27 ?_
    refine lv_goto (tgt := 32) hx hb dX3_nearest_28 (by decide) ?_
    cases h
    exact kj _ _ _ (lv_sub hl [] rfl) hw
theorem cc_X3_nearest {l : Launch} {G : gG} {adr : Nat → Nat} {sz : Nat} (hi : adi adr) {a0 : Int} {M : MI} {r : Int} (h : f_X3_nearest a0 M = some r) : mL l yX3_nearest cX3_nearest 5 (some .long) { frames := 1, cells := 0, slots := 0, locals := 25 } G adr [.ref (adr 1), .long (Int64.ofInt a0)] (tm M) sz (Int64.ofInt r) (tm M) := by
  refine wEnter (by decide) (Nat.le_of_ble_eq_true rfl) ?_
  intro p e s m below meth c ls cx hinit hl hsz hw
  exact b_X3_nearest cx hi h (fun pc ls H locs hd hw => w_lret (post := fun (r9 : Int64) (u : Mem) => r9 = Int64.ofInt r ∧ u = tm M) (lf := fun u => (LL adr, wf G adr u)) cx.1 cx.2.1 cx.2.2.1 cx.2.2.2.2.2.2 (tm M) hw ⟨rfl, rfl⟩ hd) hl hw
theorem q_311 : Cond.methodLink RX3 69 yX3_nearest ∈ uU := uU_in (by decide +kernel) (by decide +kernel)
theorem q_312 : Cond.instanceMethod yX3_nearest ∈ uU := uU_in (by decide +kernel) (by decide +kernel)
theorem q_313 : Cond.selects yX3_nearest.cls yX3_nearest yX3_nearest ∈ uU := uU_in (by decide +kernel) (by decide +kernel)
theorem q_314 : Cond.initialized yX3_nearest.cls ∈ uU := uU_in (by decide +kernel) (by decide +kernel)
theorem q_315 : Cond.code yX3_nearest cX3_nearest 5 (some .long) ∈ uU := uU_in (by decide +kernel) (by decide +kernel)
def l_X3_lift_3 (a0 : Nat) (a1 : Int) : MI × Int → Option ((MI) ⊕ (MI × Int)) := fun (M1, v2) =>
  Option.bind (gI v2 (11)) fun _ =>
  if (11) ≤ v2 then
    some (.inl M1)
  else
    Option.bind (odJ M1 a0 v2) fun v3 =>
    Option.bind (f_X3_nearest (v3 * a1) M1) fun v4 =>
    Option.bind (osJ M1 a0 v2 v4) fun v5 =>
    some (.inr (v5, v2 + 1))
def f_X3_lift (n : Nat) (a0 : Nat) (a1 : Int) (M : MI) : Option MI :=
  Option.bind (lpF (l_X3_lift_3 a0 a1) n (M, (0))) fun M7 =>
  some M7
set_option maxRecDepth 100000 in
set_option maxHeartbeats 8000000 in
theorem b_X3_lift {p : Program} {l : Launch} {e : Env} {s : State} {m : MethodId} {args : Array Value} {below : List Frame} {meth : Method} {c : Code} {Q : State → Prop} {G : gG} {A : Nat → Prop} {adr : Nat → Nat} (cx : cX p s m args meth c cX3_lift none 5 yX3_lift.cls) (hi : adi adr) {n : Nat} {a0 : Nat} {a1 : Int} {M M' : MI} 
    (h : f_X3_lift n a0 a1 M = some M')
    (kr : ∀ (pc : Nat) (ls : Array Slot) (H : Heap) (locs : List Loc), decode cX3_lift pc = .ok (.return_, 1) → wH G A s.heap s (LL adr) (wf G adr (tm M')) H locs → W p l e { frames := 2, cells := 0, slots := 0, locals := 49 } s m args below meth c H locs 0 0 Q (F0 m pc ls []))
    {ls : Array Slot} {H : Heap} {locs : List Loc} (hl : lv_has ls 5 [(0, .ref (adr 1)), (1, .ref (adr a0)), (2, .long (Int64.ofInt a1))]) (hw : wH G A s.heap s (LL adr) (wf G adr (tm M)) H locs) : W p l e { frames := 2, cells := 0, slots := 0, locals := 49 } s m args below meth c H locs 0 0 Q (F0 m 0 ls []) := by
  obtain ⟨hx, hb, -, -, hown, hts, -⟩ := id cx
  have hown : s.vm.findClass RX3 = some m.cls := hown
  unfold f_X3_lift at h
  refine lv_iconst (v := Int32.ofInt (0)) hx hb dX3_lift_0 rfl ?_
  refine lv_istore (lv' := [(4, .int (Int32.ofInt (0))), (0, .ref (adr 1)), (1, .ref (adr a0)), (2, .long (Int64.ofInt a1))]) hx hb dX3_lift_1 hl (by decide) rfl (fun ls hl => ?_)
  replace h := bnd h
  obtain ⟨M7, j6, h⟩ := h
  refine lp_W (Wst := fun (st : MI × Int) => ∀ (ls : Array Slot) (H : Heap) (locs : List Loc), lv_has ls 5 [(0, .ref (adr 1)), (1, .ref (adr a0)), (2, .long (Int64.ofInt a1)), (4, .int (Int32.ofInt st.2))] → wH G A s.heap s (LL adr) (wf G adr (tm st.1)) H locs → W p l e { frames := 2, cells := 0, slots := 0, locals := 49 } s m args below meth c H locs 0 0 Q (F0 m 3 ls [])) (fin := fun (r : MI) => ∀ (ls : Array Slot) (H : Heap) (locs : List Loc), lv_has ls 5 [] → wH G A s.heap s (LL adr) (wf G adr (tm r)) H locs → W p l e { frames := 2, cells := 0, slots := 0, locals := 49 } s m args below meth c H locs 0 0 Q (F0 m 30 ls [])) ?_ n _ _ j6 ?_ _ _ _ (lv_sub hl [1, 2, 3, 0] rfl) hw
  · clear h j6 hw hl
    intro ⟨M1, v2⟩ x h k1 k2 ls H locs hl hw
    (try dsimp only at k1 k2 hl hw ⊢)
    unfold l_X3_lift_3 at h
    (try dsimp only at h)
    refine lv_iload hx hb dX3_lift_3 (lv_at hl 3 rfl) ?_
    refine lv_bipush (v := Int32.ofInt (11)) hx hb dX3_lift_5 rfl ?_
    replace h := bnd h
    obtain ⟨_, hg, h⟩ := h
    refine o_icmp_ge (tgt := 30) hx hb hg dX3_lift_7 (by decide) (fun hc => ?_) (fun hc => ?_)
    · replace h := ite_t hc h
      cases h
      exact k1 _ rfl _ _ _ (lv_sub hl [] rfl) hw
    · replace h := ite_f hc h
      refine lv_aload_n hx hb dX3_lift_10 rfl (lv_at hl 1 rfl) ?_
      refine lv_iload hx hb dX3_lift_11 (lv_at hl 3 rfl) ?_
      refine lv_aload_n hx hb dX3_lift_13 rfl (lv_at hl 0 rfl) ?_
      refine lv_aload_n hx hb dX3_lift_14 rfl (lv_at hl 1 rfl) ?_
      refine lv_iload hx hb dX3_lift_15 (lv_at hl 3 rfl) ?_
      replace h := bnd h
      obtain ⟨v3, e3, h⟩ := h
      refine o_lald hx hb hi hw e3 dX3_lift_17 ?_
      refine lv_lload_n hx hb dX3_lift_18 rfl (lv_at hl 2 rfl) ?_
      refine o_lmul hx hb dX3_lift_19 ?_
      replace h := bnd h
      obtain ⟨v4, e4, h⟩ := h
      refine m_callVl (k := 1) (As := [.long (Int64.ofInt (v3 * a1))]) (rest := [.int (Int32.ofInt v2), .ref (adr a0)]) cx.fix hi hw (cc_X3_nearest (l := l) (G := G) (sz := H.size) hi e4) (by decide) rfl rfl (w_cV 1 hts q_311 q_312 q_313 q_314 q_315 rfl rfl (by decide) (by decide)) hl.1 rfl (lv_room (Nat.le_of_ble_eq_true rfl)) dX3_lift_20 (fun H locs hw => ?_)
      replace h := bnd h
      obtain ⟨v5, e5, h⟩ := h
      refine o_last hx hb hi hw e5 dX3_lift_23 (fun H locs hw => ?_)
      refine lv_iinc (v := Int32.ofInt (v2 + 1)) (lv' := [(4, .int (Int32.ofInt (v2 + 1))), (0, .ref (adr 1)), (1, .ref (adr a0)), (2, .long (Int64.ofInt a1))]) hx hb dX3_lift_24 hl (k := 3) rfl (inc_o _ _) (by decide) rfl (fun ls hl => ?_)
      refine lv_goto (tgt := 3) hx hb dX3_lift_27 (by decide) ?_
      cases h
      exact k2 _ rfl _ _ _ (lv_sub hl [1, 2, 3, 0] rfl) hw
  · clear hw hl
    intro ls H locs hl hw
    (try dsimp only at hl hw ⊢)
    cases h
    exact kr _ _ _ _ dX3_lift_30 hw
theorem cc_X3_lift {l : Launch} {G : gG} {adr : Nat → Nat} {sz : Nat} (hi : adi adr) {n : Nat} {a0 : Nat} {a1 : Int} {M M' : MI} (h : f_X3_lift n a0 a1 M = some M') : mV l yX3_lift cX3_lift 5 none { frames := 2, cells := 0, slots := 0, locals := 49 } G adr [.ref (adr 1), .ref (adr a0), .long (Int64.ofInt a1)] (tm M) sz (tm M') := by
  refine wEnter (by decide) (Nat.le_of_ble_eq_true rfl) ?_
  intro p e s m below meth c ls cx hinit hl hsz hw
  exact b_X3_lift cx hi h (fun pc ls H locs hd hw => w_vret (post := fun (u : Mem) => u = tm M') (lf := fun u => (LL adr, wf G adr u)) cx.1 cx.2.1 cx.2.2.1 cx.2.2.2.2.2.2 (tm M') hw rfl hd) hl hw
