theorem q_434 : Cond.constantLong RX4 46 (9999) ∈ uU := uU_in (by decide +kernel) (by decide +kernel)
theorem q_435 : Cond.methodLink RX4 48 yJ9_abs_067f4 ∈ uU := uU_in (by decide +kernel) (by decide +kernel)
theorem q_436 : Cond.methodLink RX4 54 yJ9_min_f86c9 ∈ uU := uU_in (by decide +kernel) (by decide +kernel)
theorem q_437 : Cond.static yJ9_min_f86c9 ∈ uU := uU_in (by decide +kernel) (by decide +kernel)
theorem q_438 : Cond.initialized yJ9_min_f86c9.cls ∈ uU := uU_in (by decide +kernel) (by decide +kernel)
theorem q_439 : Cond.code yJ9_min_f86c9 cJ9_min_f86c9 4 (some .long) ∈ uU := uU_in (by decide +kernel) (by decide +kernel)
def l_X4_listDivisors_17 (a1 : Nat) (v2 : Int) : MI × Int × Int → Option ((MI × Int) ⊕ (MI × Int × Int)) := fun (M3, v4, v5) =>
  Option.bind (gJ (v5 * v5) v2) fun _ =>
  if v2 < (v5 * v5) then
    some (.inl (M3, v4))
  else
    Option.bind (gI (v4 + (2)) (64)) fun _ =>
    if (64) < (v4 + (2)) then
      some (.inl (M3, v4))
    else
      Option.bind (orJ v2 v5) fun v6 =>
      Option.bind (
        Option.bind (gJ v6 (0)) fun _ =>
        if v6 = (0) then
          Option.bind (osJ M3 a1 v4 v5) fun v7 =>
          Option.bind (gJ (v5 * v5) v2) fun _ =>
          if (v5 * v5) = v2 then
            some (v7, v4 + 1)
          else
            Option.bind (oqJ v2 v5) fun v8 =>
            Option.bind (osJ v7 a1 (v4 + 1) v8) fun v9 =>
            some (v9, (v4 + 1) + 1)
        else
          some (M3, v4)) fun (M10, v11) =>
      some (.inr (M10, v11, v5 + (1)))
def f_X4_listDivisors (n : Nat) (a0 : Int) (a1 : Nat) (M : MI) : Option (Int × MI) :=
  Option.bind (f_J9_abs_067f4 a0) fun v1 =>
  Option.bind (f_J9_min_f86c9 (9999) v1) fun v2 =>
  Option.bind (lpF (l_X4_listDivisors_17 a1 v2) n (M, (0), (1))) fun (M14, v15) =>
  some (v15, M14)
set_option maxRecDepth 100000 in
set_option maxHeartbeats 8000000 in
theorem b_X4_listDivisors {p : Program} {l : Launch} {e : Env} {s : State} {m : MethodId} {args : Array Value} {below : List Frame} {meth : Method} {c : Code} {Q : State → Prop} {G : gG} {A : Nat → Prop} {adr : Nat → Nat} (cx : cX p s m args meth c cX4_listDivisors (some .int) 8 yX4_listDivisors.cls) (hi : adi adr) {n : Nat} {a0 : Int} {a1 : Nat} {M M' : MI} {r : Int} 
    (h : f_X4_listDivisors n a0 a1 M = some (r, M'))
    (kr : ∀ (pc : Nat) (ls : Array Slot) (H : Heap) (locs : List Loc), decode cX4_listDivisors pc = .ok (.ireturn, 1) → wH G A s.heap s (LL adr) (wf G adr (tm M')) H locs → W p l e { frames := 1, cells := 0, slots := 0, locals := 23 } s m args below meth c H locs 0 0 Q (F0 m pc ls [.int (Int32.ofInt r)]))
    {ls : Array Slot} {H : Heap} {locs : List Loc} (hl : lv_has ls 8 [(0, .long (Int64.ofInt a0)), (2, .ref (adr a1))]) (hw : wH G A s.heap s (LL adr) (wf G adr (tm M)) H locs) : W p l e { frames := 1, cells := 0, slots := 0, locals := 23 } s m args below meth c H locs 0 0 Q (F0 m 0 ls []) := by
  obtain ⟨hx, hb, -, -, hown, hts, -⟩ := id cx
  have hown : s.vm.findClass RX4 = some m.cls := hown
  unfold f_X4_listDivisors at h
  refine lv_ldc2 (v := Int64.ofInt (9999)) hx hb hown (hts _ q_434) dX4_listDivisors_0 ?_
  refine lv_lload_n hx hb dX4_listDivisors_3 rfl (lv_at hl 0 rfl) ?_
  replace h := bnd h
  obtain ⟨v1, e1, h⟩ := h
  refine m_callSl (As := [.long (Int64.ofInt a0)]) (rest := [.long (Int64.ofInt (9999))]) cx.fix hw (cc_J9_abs_067f4 (l := l) (G := G) (sz := H.size) (M := M) hi e1) (w_cS 1 hts q_435 q_242 q_243 q_244 rfl rfl (by decide) (by decide)) hl.1 rfl (lv_room (Nat.le_of_ble_eq_true rfl)) dX4_listDivisors_4 (fun H locs hw => ?_)
  replace h := bnd h
  obtain ⟨v2, e2, h⟩ := h
  refine m_callSl (As := [.long (Int64.ofInt (9999)), .long (Int64.ofInt v1)]) (rest := []) cx.fix hw (cc_J9_min_f86c9 (l := l) (G := G) (sz := H.size) (M := M) hi e2) (w_cS 2 hts q_436 q_437 q_438 q_439 rfl rfl (by decide) (by decide)) hl.1 rfl (lv_room (Nat.le_of_ble_eq_true rfl)) dX4_listDivisors_7 (fun H locs hw => ?_)
  refine lv_lstore_n (lv' := [(3, .long (Int64.ofInt v2)), (0, .long (Int64.ofInt a0)), (2, .ref (adr a1))]) hx hb dX4_listDivisors_10 rfl hl (by decide) rfl (fun ls hl => ?_)
  refine lv_iconst (v := Int32.ofInt (0)) hx hb dX4_listDivisors_11 rfl ?_
  refine lv_istore (lv' := [(5, .int (Int32.ofInt (0))), (3, .long (Int64.ofInt v2)), (0, .long (Int64.ofInt a0)), (2, .ref (adr a1))]) hx hb dX4_listDivisors_12 hl (by decide) rfl (fun ls hl => ?_)
  refine lv_lconst (v := Int64.ofInt (1)) hx hb dX4_listDivisors_14 (by decide) ?_
  refine lv_lstore (lv' := [(6, .long (Int64.ofInt (1))), (5, .int (Int32.ofInt (0))), (3, .long (Int64.ofInt v2)), (0, .long (Int64.ofInt a0)), (2, .ref (adr a1))]) hx hb dX4_listDivisors_15 hl (by decide) rfl (fun ls hl => ?_)
  replace h := bnd h
  obtain ⟨⟨M14, v15⟩, j13, h⟩ := h
  refine lp_W (Wst := fun (st : MI × Int × Int) => ∀ (ls : Array Slot) (H : Heap) (locs : List Loc), lv_has ls 8 [(2, .ref (adr a1)), (3, .long (Int64.ofInt v2)), (5, .int (Int32.ofInt st.2.1)), (6, .long (Int64.ofInt st.2.2))] → wH G A s.heap s (LL adr) (wf G adr (tm st.1)) H locs → W p l e { frames := 1, cells := 0, slots := 0, locals := 23 } s m args below meth c H locs 0 0 Q (F0 m 17 ls [])) (fin := fun (r : MI × Int) => ∀ (ls : Array Slot) (H : Heap) (locs : List Loc), lv_has ls 8 [(5, .int (Int32.ofInt r.2))] → wH G A s.heap s (LL adr) (wf G adr (tm r.1)) H locs → W p l e { frames := 1, cells := 0, slots := 0, locals := 23 } s m args below meth c H locs 0 0 Q (F0 m 84 ls [])) ?_ n _ _ j13 ?_ _ _ _ (lv_sub hl [4, 2, 1, 0] rfl) hw
  · clear h j13 hw hl
    intro ⟨M3, v4, v5⟩ x h k1 k2 ls H locs hl hw
    (try dsimp only at k1 k2 hl hw ⊢)
    unfold l_X4_listDivisors_17 at h
    (try dsimp only at h)
    refine lv_lload hx hb dX4_listDivisors_17 (lv_at hl 3 rfl) ?_
    refine lv_lload hx hb dX4_listDivisors_19 (lv_at hl 3 rfl) ?_
    refine o_lmul hx hb dX4_listDivisors_21 ?_
    refine lv_lload_n hx hb dX4_listDivisors_22 rfl (lv_at hl 1 rfl) ?_
    replace h := bnd h
    obtain ⟨_, hg, h⟩ := h
    refine o_lcmp_gt (tgt := 84) hx hb hg dX4_listDivisors_23 dX4_listDivisors_24 (by decide) (fun hc => ?_) (fun hc => ?_)
    · replace h := ite_t hc h
      cases h
      exact k1 _ rfl _ _ _ (lv_sub hl [2] rfl) hw
    · replace h := ite_f hc h
      refine lv_iload hx hb dX4_listDivisors_27 (lv_at hl 2 rfl) ?_
      refine lv_iconst (v := Int32.ofInt (2)) hx hb dX4_listDivisors_29 rfl ?_
      refine o_iadd hx hb dX4_listDivisors_30 ?_
      refine lv_bipush (v := Int32.ofInt (64)) hx hb dX4_listDivisors_31 rfl ?_
      replace h := bnd h
      obtain ⟨_, hg, h⟩ := h
      refine o_icmp_gt (tgt := 84) hx hb hg dX4_listDivisors_33 (by decide) (fun hc => ?_) (fun hc => ?_)
      · replace h := ite_t hc h
        cases h
        exact k1 _ rfl _ _ _ (lv_sub hl [2] rfl) hw
      · replace h := ite_f hc h
        refine lv_lload_n hx hb dX4_listDivisors_36 rfl (lv_at hl 1 rfl) ?_
        refine lv_lload hx hb dX4_listDivisors_37 (lv_at hl 3 rfl) ?_
        replace h := bnd h
        obtain ⟨v6, e6, h⟩ := h
        refine o_lrem hx hb e6 dX4_listDivisors_39 ?_
        refine lv_lconst (v := Int64.ofInt (0)) hx hb dX4_listDivisors_40 (by decide) ?_
        replace h := bnd h
        obtain ⟨⟨M10, v11⟩, j12, h⟩ := h
        have kj : ∀ (ls : Array Slot) (H : Heap) (locs : List Loc), lv_has ls 8 [(2, .ref (adr a1)), (3, .long (Int64.ofInt v2)), (5, .int (Int32.ofInt v11)), (6, .long (Int64.ofInt v5))] → wH G A s.heap s (LL adr) (wf G adr (tm M10)) H locs → W p l e { frames := 1, cells := 0, slots := 0, locals := 23 } s m args below meth c H locs 0 0 Q (F0 m 75 ls []) := by
          intro ls H locs hl hw
          refine lv_lload hx hb dX4_listDivisors_75 (lv_at hl 3 rfl) ?_
          refine lv_lconst (v := Int64.ofInt (1)) hx hb dX4_listDivisors_77 (by decide) ?_
          refine o_ladd hx hb dX4_listDivisors_78 ?_
          refine lv_lstore (lv' := [(6, .long (Int64.ofInt (v5 + (1)))), (2, .ref (adr a1)), (3, .long (Int64.ofInt v2)), (5, .int (Int32.ofInt v11))]) hx hb dX4_listDivisors_79 hl (by decide) rfl (fun ls hl => ?_)
          refine lv_goto (tgt := 17) hx hb dX4_listDivisors_81 (by decide) ?_
          cases h
          exact k2 _ rfl _ _ _ (lv_sub hl [1, 2, 3, 0] rfl) hw
        clear h
        replace h := j12
        clear j12
        replace h := bnd h
        obtain ⟨_, hg, h⟩ := h
        refine o_lcmp_ne (tgt := 75) hx hb hg dX4_listDivisors_41 dX4_listDivisors_42 (by decide) (fun hc => ?_) (fun hc => ?_)
        · replace h := ite_f hc h
          cases h
          exact kj _ _ _ (lv_sub hl [0, 1, 2, 3] rfl) hw
        · replace h := ite_t hc h
          refine lv_aload_n hx hb dX4_listDivisors_45 rfl (lv_at hl 0 rfl) ?_
          refine lv_iload hx hb dX4_listDivisors_46 (lv_at hl 2 rfl) ?_
          refine lv_lload hx hb dX4_listDivisors_48 (lv_at hl 3 rfl) ?_
          replace h := bnd h
          obtain ⟨v7, e7, h⟩ := h
          refine o_last hx hb hi hw e7 dX4_listDivisors_50 (fun H locs hw => ?_)
          refine lv_iinc (v := Int32.ofInt (v4 + 1)) (lv' := [(5, .int (Int32.ofInt (v4 + 1))), (2, .ref (adr a1)), (3, .long (Int64.ofInt v2)), (6, .long (Int64.ofInt v5))]) hx hb dX4_listDivisors_51 hl (k := 2) rfl (inc_o _ _) (by decide) rfl (fun ls hl => ?_)
          refine lv_lload hx hb dX4_listDivisors_54 (lv_at hl 3 rfl) ?_
          refine lv_lload hx hb dX4_listDivisors_56 (lv_at hl 3 rfl) ?_
          refine o_lmul hx hb dX4_listDivisors_58 ?_
          refine lv_lload_n hx hb dX4_listDivisors_59 rfl (lv_at hl 2 rfl) ?_
          replace h := bnd h
          obtain ⟨_, hg, h⟩ := h
          refine o_lcmp_eq (tgt := 75) hx hb hg dX4_listDivisors_60 dX4_listDivisors_61 (by decide) (fun hc => ?_) (fun hc => ?_)
          · replace h := ite_t hc h
            cases h
            exact kj _ _ _ (lv_sub hl [1, 2, 0, 3] rfl) hw
          · replace h := ite_f hc h
            refine lv_aload_n hx hb dX4_listDivisors_64 rfl (lv_at hl 1 rfl) ?_
            refine lv_iload hx hb dX4_listDivisors_65 (lv_at hl 0 rfl) ?_
            refine lv_lload_n hx hb dX4_listDivisors_67 rfl (lv_at hl 2 rfl) ?_
            refine lv_lload hx hb dX4_listDivisors_68 (lv_at hl 3 rfl) ?_
            replace h := bnd h
            obtain ⟨v8, e8, h⟩ := h
            refine o_ldiv hx hb e8 dX4_listDivisors_70 ?_
            replace h := bnd h
            obtain ⟨v9, e9, h⟩ := h
            refine o_last hx hb hi hw e9 dX4_listDivisors_71 (fun H locs hw => ?_)
            refine lv_iinc (v := Int32.ofInt ((v4 + 1) + 1)) (lv' := [(5, .int (Int32.ofInt ((v4 + 1) + 1))), (2, .ref (adr a1)), (3, .long (Int64.ofInt v2)), (6, .long (Int64.ofInt v5))]) hx hb dX4_listDivisors_72 hl (k := 0) rfl (inc_o _ _) (by decide) rfl (fun ls hl => ?_)
            cases h
            exact kj _ _ _ (lv_sub hl [1, 2, 0, 3] rfl) hw
  · clear hw hl
    intro ls H locs hl hw
    (try dsimp only at hl hw ⊢)
    refine lv_iload hx hb dX4_listDivisors_84 (lv_at hl 0 rfl) ?_
    cases h
    exact kr _ _ _ _ dX4_listDivisors_86 hw
theorem cc_X4_listDivisors {l : Launch} {G : gG} {adr : Nat → Nat} {sz : Nat} (hi : adi adr) {n : Nat} {a0 : Int} {a1 : Nat} {M M' : MI} {r : Int} (h : f_X4_listDivisors n a0 a1 M = some (r, M')) : mI l yX4_listDivisors cX4_listDivisors 8 (some .int) { frames := 1, cells := 0, slots := 0, locals := 23 } G adr [.long (Int64.ofInt a0), .ref (adr a1)] (tm M) sz (Int32.ofInt r) (tm M') := by
  refine wEnter (by decide) (Nat.le_of_ble_eq_true rfl) ?_
  intro p e s m below meth c ls cx hinit hl hsz hw
  exact b_X4_listDivisors cx hi h (fun pc ls H locs hd hw => w_iret (post := fun (r9 : Int32) (u : Mem) => r9 = Int32.ofInt r ∧ u = tm M') (lf := fun u => (LL adr, wf G adr u)) cx.1 cx.2.1 cx.2.2.1 cx.2.2.2.2.2.2 (tm M') hw ⟨rfl, rfl⟩ hd) hl hw
theorem q_440 : Cond.methodLink RX4 28 yX5_degree ∈ uU := uU_in (by decide +kernel) (by decide +kernel)
theorem q_441 : Cond.constantLong RX4 62 (1073741824) ∈ uU := uU_in (by decide +kernel) (by decide +kernel)
def l_X4_dividedBy_18 (a0 : Nat) (a1 : Int) (a2 : Int) (a3 : Int) (M : MI) : Int × Int → Option (((Int) ⊕ (Int)) ⊕ (Int × Int)) := fun (v2, v3) =>
  Option.bind (gI v3 a1) fun _ =>
  if v3 ≤ a1 then
    some (.inl (.inr v2))
  else
    Option.bind (odJ M a0 v3) fun v4 =>
    Option.bind (oqJ (v4 + (a2 * v2)) a3) fun v5 =>
    Option.bind (gJ (v5 * a3) (v4 + (a2 * v2))) fun _ =>
    if (v5 * a3) = (v4 + (a2 * v2)) then
      Option.bind (f_J9_abs_067f4 v5) fun v6 =>
      Option.bind (gJ v6 (1073741824)) fun _ =>
      if v6 ≤ (1073741824) then
        some (.inr (v5, v3 + (-1)))
      else
        some (.inl (.inl (0)))
    else
      some (.inl (.inl (0)))
def f_X4_dividedBy (n : Nat) (a0 : Nat) (a1 : Int) (a2 : Int) (a3 : Int) (M : MI) : Option Int :=
  Option.bind (gJ a3 (0)) fun _ =>
  if a3 = (0) then
    some (0)
  else
    Option.bind (f_X5_degree n a0 M) fun v1 =>
    Option.bind (lpF (l_X4_dividedBy_18 a0 a1 a2 a3 M) n ((0), v1)) fun r => match r with
    | .inl o => some o
    | .inr v8 =>
      Option.bind (odJ M a0 a1) fun v9 =>
      Option.bind (
        Option.bind (gJ (v9 + (a2 * v8)) (0)) fun _ =>
        if (v9 + (a2 * v8)) = (0) then
          some (1)
        else
          some (0)) fun v10 =>
      Option.bind (obz v10) fun v11 =>
      some v11
set_option maxRecDepth 100000 in
set_option maxHeartbeats 8000000 in
theorem b_X4_dividedBy {p : Program} {l : Launch} {e : Env} {s : State} {m : MethodId} {args : Array Value} {below : List Frame} {meth : Method} {c : Code} {Q : State → Prop} {G : gG} {A : Nat → Prop} {adr : Nat → Nat} (cx : cX p s m args meth c cX4_dividedBy (some .boolean) 11 yX4_dividedBy.cls) (hi : adi adr) {n : Nat} {a0 : Nat} {a1 : Int} {a2 : Int} {a3 : Int} {M : MI} {r : Int} 
    (h : f_X4_dividedBy n a0 a1 a2 a3 M = some r)
    (kr : ∀ (pc : Nat) (ls : Array Slot) (H : Heap) (locs : List Loc), decode cX4_dividedBy pc = .ok (.ireturn, 1) → narrow .boolean (.int (Int32.ofInt r)) = .int (Int32.ofInt r) → wH G A s.heap s (LL adr) (wf G adr (tm M)) H locs → W p l e { frames := 1, cells := 0, slots := 0, locals := 21 } s m args below meth c H locs 0 0 Q (F0 m pc ls [.int (Int32.ofInt r)]))
    {ls : Array Slot} {H : Heap} {locs : List Loc} (hl : lv_has ls 11 [(0, .ref (adr a0)), (1, .int (Int32.ofInt a1)), (2, .long (Int64.ofInt a2)), (4, .long (Int64.ofInt a3))]) (hw : wH G A s.heap s (LL adr) (wf G adr (tm M)) H locs) : W p l e { frames := 1, cells := 0, slots := 0, locals := 21 } s m args below meth c H locs 0 0 Q (F0 m 0 ls []) := by
  obtain ⟨hx, hb, -, -, hown, hts, -⟩ := id cx
  have hown : s.vm.findClass RX4 = some m.cls := hown
  unfold f_X4_dividedBy at h
  refine lv_lload hx hb dX4_dividedBy_0 (lv_at hl 3 rfl) ?_
  refine lv_lconst (v := Int64.ofInt (0)) hx hb dX4_dividedBy_2 (by decide) ?_
  replace h := bnd h
  obtain ⟨_, hg, h⟩ := h
  refine o_lcmp_ne (tgt := 9) hx hb hg dX4_dividedBy_3 dX4_dividedBy_4 (by decide) (fun hc => ?_) (fun hc => ?_)
  · replace h := ite_f hc h
    refine lv_lconst (v := Int64.ofInt (0)) hx hb dX4_dividedBy_9 (by decide) ?_
    refine lv_lstore (lv' := [(6, .long (Int64.ofInt (0))), (0, .ref (adr a0)), (1, .int (Int32.ofInt a1)), (2, .long (Int64.ofInt a2)), (4, .long (Int64.ofInt a3))]) hx hb dX4_dividedBy_10 hl (by decide) rfl (fun ls hl => ?_)
    refine lv_aload_n hx hb dX4_dividedBy_12 rfl (lv_at hl 1 rfl) ?_
    replace h := bnd h
    obtain ⟨v1, e1, h⟩ := h
    refine m_callSi (As := [.ref (adr a0)]) (rest := []) cx.fix hw (cc_X5_degree (l := l) (G := G) (sz := H.size) hi e1) (w_cS 1 hts q_440 q_246 q_247 q_248 rfl rfl (by decide) (by decide)) hl.1 rfl (lv_room (Nat.le_of_ble_eq_true rfl)) dX4_dividedBy_13 (fun H locs hw => ?_)
    refine lv_istore (lv' := [(8, .int (Int32.ofInt v1)), (6, .long (Int64.ofInt (0))), (0, .ref (adr a0)), (1, .int (Int32.ofInt a1)), (2, .long (Int64.ofInt a2)), (4, .long (Int64.ofInt a3))]) hx hb dX4_dividedBy_16 hl (by decide) rfl (fun ls hl => ?_)
    replace h := bnd h
    obtain ⟨o13, j7, h⟩ := h
    refine lp_W (Wst := fun (st : Int × Int) => ∀ (ls : Array Slot) (H : Heap) (locs : List Loc), lv_has ls 11 [(0, .ref (adr a0)), (1, .int (Int32.ofInt a1)), (2, .long (Int64.ofInt a2)), (4, .long (Int64.ofInt a3)), (6, .long (Int64.ofInt st.1)), (8, .int (Int32.ofInt st.2))] → wH G A s.heap s (LL adr) (wf G adr (tm M)) H locs → W p l e { frames := 1, cells := 0, slots := 0, locals := 21 } s m args below meth c H locs 0 0 Q (F0 m 18 ls [])) (fin := fun (r : (Int) ⊕ (Int)) => match r with
      | .inl o => ∀ (pc : Nat) (ls : Array Slot) (H : Heap) (locs : List Loc), decode cX4_dividedBy pc = .ok (.ireturn, 1) → narrow .boolean (.int (Int32.ofInt o)) = .int (Int32.ofInt o) → wH G A s.heap s (LL adr) (wf G adr (tm M)) H locs → W p l e { frames := 1, cells := 0, slots := 0, locals := 21 } s m args below meth c H locs 0 0 Q (F0 m pc ls [.int (Int32.ofInt o)])
      | .inr q => ∀ (ls : Array Slot) (H : Heap) (locs : List Loc), lv_has ls 11 [(0, .ref (adr a0)), (1, .int (Int32.ofInt a1)), (2, .long (Int64.ofInt a2)), (6, .long (Int64.ofInt q))] → wH G A s.heap s (LL adr) (wf G adr (tm M)) H locs → W p l e { frames := 1, cells := 0, slots := 0, locals := 21 } s m args below meth c H locs 0 0 Q (F0 m 73 ls [])) ?_ n _ _ j7 ?_ _ _ _ (lv_sub hl [2, 3, 4, 5, 1, 0] rfl) hw
    · clear h j7 hw hl
      intro ⟨v2, v3⟩ x h k1 k2 ls H locs hl hw
      (try dsimp only at k2 hl hw ⊢)
      unfold l_X4_dividedBy_18 at h
      (try dsimp only at h)
      refine lv_iload hx hb dX4_dividedBy_18 (lv_at hl 5 rfl) ?_
      refine lv_iload_n hx hb dX4_dividedBy_20 rfl (lv_at hl 1 rfl) ?_
      replace h := bnd h
      obtain ⟨_, hg, h⟩ := h
      refine o_icmp_le (tgt := 73) hx hb hg dX4_dividedBy_21 (by decide) (fun hc => ?_) (fun hc => ?_)
      · replace h := ite_t hc h
        cases h
        exact k1 _ rfl _ _ _ (lv_sub hl [0, 1, 2, 4] rfl) hw
      · replace h := ite_f hc h
        refine lv_aload_n hx hb dX4_dividedBy_24 rfl (lv_at hl 0 rfl) ?_
        refine lv_iload hx hb dX4_dividedBy_25 (lv_at hl 5 rfl) ?_
        replace h := bnd h
        obtain ⟨v4, e4, h⟩ := h
        refine o_lald hx hb hi hw e4 dX4_dividedBy_27 ?_
        refine lv_lload_n hx hb dX4_dividedBy_28 rfl (lv_at hl 2 rfl) ?_
        refine lv_lload hx hb dX4_dividedBy_29 (lv_at hl 4 rfl) ?_
        refine o_lmul hx hb dX4_dividedBy_31 ?_
        refine o_ladd hx hb dX4_dividedBy_32 ?_
        refine lv_lstore (lv' := [(9, .long (Int64.ofInt (v4 + (a2 * v2)))), (0, .ref (adr a0)), (1, .int (Int32.ofInt a1)), (2, .long (Int64.ofInt a2)), (4, .long (Int64.ofInt a3)), (6, .long (Int64.ofInt v2)), (8, .int (Int32.ofInt v3))]) hx hb dX4_dividedBy_33 hl (by decide) rfl (fun ls hl => ?_)
        refine lv_lload hx hb dX4_dividedBy_35 (lv_at hl 0 rfl) ?_
        refine lv_lload hx hb dX4_dividedBy_37 (lv_at hl 4 rfl) ?_
        replace h := bnd h
        obtain ⟨v5, e5, h⟩ := h
        refine o_ldiv hx hb e5 dX4_dividedBy_39 ?_
        refine lv_lstore (lv' := [(6, .long (Int64.ofInt v5)), (9, .long (Int64.ofInt (v4 + (a2 * v2)))), (0, .ref (adr a0)), (1, .int (Int32.ofInt a1)), (2, .long (Int64.ofInt a2)), (4, .long (Int64.ofInt a3)), (8, .int (Int32.ofInt v3))]) hx hb dX4_dividedBy_40 hl (by decide) rfl (fun ls hl => ?_)
        refine lv_lload hx hb dX4_dividedBy_42 (lv_at hl 0 rfl) ?_
        refine lv_lload hx hb dX4_dividedBy_44 (lv_at hl 5 rfl) ?_
        refine o_lmul hx hb dX4_dividedBy_46 ?_
        refine lv_lload hx hb dX4_dividedBy_47 (lv_at hl 1 rfl) ?_
        replace h := bnd h
        obtain ⟨_, hg, h⟩ := h
        refine o_lcmp_ne (tgt := 65) hx hb hg dX4_dividedBy_49 dX4_dividedBy_50 (by decide) (fun hc => ?_) (fun hc => ?_)
        · replace h := ite_f hc h
          refine lv_iconst (v := Int32.ofInt (0)) hx hb dX4_dividedBy_65 rfl ?_
          cases h
          exact k1 _ rfl _ _ _ _ dX4_dividedBy_66 nb0 hw
        · replace h := ite_t hc h
          refine lv_lload hx hb dX4_dividedBy_53 (lv_at hl 0 rfl) ?_
          replace h := bnd h
          obtain ⟨v6, e6, h⟩ := h
          refine m_callSl (As := [.long (Int64.ofInt v5)]) (rest := []) cx.fix hw (cc_J9_abs_067f4 (l := l) (G := G) (sz := H.size) (M := M) hi e6) (w_cS 1 hts q_435 q_242 q_243 q_244 rfl rfl (by decide) (by decide)) hl.1 rfl (lv_room (Nat.le_of_ble_eq_true rfl)) dX4_dividedBy_55 (fun H locs hw => ?_)
          refine lv_ldc2 (v := Int64.ofInt (1073741824)) hx hb hown (hts _ q_441) dX4_dividedBy_58 ?_
          replace h := bnd h
          obtain ⟨_, hg, h⟩ := h
          refine o_lcmp_le (tgt := 67) hx hb hg dX4_dividedBy_61 dX4_dividedBy_62 (by decide) (fun hc => ?_) (fun hc => ?_)
          · replace h := ite_t hc h
            refine lv_iinc (v := Int32.ofInt (v3 + (-1))) (lv' := [(8, .int (Int32.ofInt (v3 + (-1)))), (6, .long (Int64.ofInt v5)), (9, .long (Int64.ofInt (v4 + (a2 * v2)))), (0, .ref (adr a0)), (1, .int (Int32.ofInt a1)), (2, .long (Int64.ofInt a2)), (4, .long (Int64.ofInt a3))]) hx hb dX4_dividedBy_67 hl (k := 6) rfl (inc_o _ _) (by decide) rfl (fun ls hl => ?_)
            refine lv_goto (tgt := 18) hx hb dX4_dividedBy_70 (by decide) ?_
            cases h
            exact k2 _ rfl _ _ _ (lv_sub hl [3, 4, 5, 6, 1, 0] rfl) hw
          · replace h := ite_f hc h
            refine lv_iconst (v := Int32.ofInt (0)) hx hb dX4_dividedBy_65 rfl ?_
            cases h
            exact k1 _ rfl _ _ _ _ dX4_dividedBy_66 nb0 hw
    · clear hw hl j7
      rcases o13 with o9 | v8
      · cases h
        exact kr
      · intro ls H locs hl hw
        (try dsimp only at h hl hw ⊢)
        refine lv_aload_n hx hb dX4_dividedBy_73 rfl (lv_at hl 0 rfl) ?_
        refine lv_iload_n hx hb dX4_dividedBy_74 rfl (lv_at hl 1 rfl) ?_
        replace h := bnd h
        obtain ⟨v9, e9, h⟩ := h
        refine o_lald hx hb hi hw e9 dX4_dividedBy_75 ?_
        refine lv_lload_n hx hb dX4_dividedBy_76 rfl (lv_at hl 2 rfl) ?_
        refine lv_lload hx hb dX4_dividedBy_77 (lv_at hl 3 rfl) ?_
        refine o_lmul hx hb dX4_dividedBy_79 ?_
        refine o_ladd hx hb dX4_dividedBy_80 ?_
        refine lv_lconst (v := Int64.ofInt (0)) hx hb dX4_dividedBy_81 (by decide) ?_
        replace h := bnd h
        obtain ⟨v10, j12, h⟩ := h
        have kj : ∀ (ls : Array Slot) (H : Heap) (locs : List Loc), lv_has ls 11 [] → wH G A s.heap s (LL adr) (wf G adr (tm M)) H locs → W p l e { frames := 1, cells := 0, slots := 0, locals := 21 } s m args below meth c H locs 0 0 Q (F0 m 91 ls [.int (Int32.ofInt v10)]) := by
          intro ls H locs hl hw
          replace h := bnd h
          obtain ⟨v11, eZ, h⟩ := h
          obtain ⟨rfl, eZ⟩ := obz_ok eZ
          cases h
          exact kr _ _ _ _ dX4_dividedBy_91 eZ hw
        clear h
        replace h := j12
        clear j12
        replace h := bnd h
        obtain ⟨_, hg, h⟩ := h
        refine o_lcmp_ne (tgt := 90) hx hb hg dX4_dividedBy_82 dX4_dividedBy_83 (by decide) (fun hc => ?_) (fun hc => ?_)
        · replace h := ite_f hc h
          refine lv_iconst (v := Int32.ofInt (0)) hx hb dX4_dividedBy_90 rfl ?_
          cases h
          exact kj _ _ _ (lv_sub hl [] rfl) hw
        · replace h := ite_t hc h
          refine lv_iconst (v := Int32.ofInt (1)) hx hb dX4_dividedBy_86 rfl ?_
          refine lv_goto (tgt := 91) hx hb dX4_dividedBy_87 (by decide) ?_
          cases h
          exact kj _ _ _ (lv_sub hl [] rfl) hw
  · replace h := ite_t hc h
    refine lv_iconst (v := Int32.ofInt (0)) hx hb dX4_dividedBy_7 rfl ?_
    cases h
    exact kr _ _ _ _ dX4_dividedBy_8 nb0 hw
theorem cc_X4_dividedBy {l : Launch} {G : gG} {adr : Nat → Nat} {sz : Nat} (hi : adi adr) {n : Nat} {a0 : Nat} {a1 : Int} {a2 : Int} {a3 : Int} {M : MI} {r : Int} (h : f_X4_dividedBy n a0 a1 a2 a3 M = some r) : mI l yX4_dividedBy cX4_dividedBy 11 (some .boolean) { frames := 1, cells := 0, slots := 0, locals := 21 } G adr [.ref (adr a0), .int (Int32.ofInt a1), .long (Int64.ofInt a2), .long (Int64.ofInt a3)] (tm M) sz (Int32.ofInt r) (tm M) := by
  refine wEnter (by decide) (Nat.le_of_ble_eq_true rfl) ?_
  intro p e s m below meth c ls cx hinit hl hsz hw
  exact b_X4_dividedBy cx hi h (fun pc ls H locs hd hz hw => w_zret (post := fun (r9 : Int32) (u : Mem) => r9 = Int32.ofInt r ∧ u = tm M) (lf := fun u => (LL adr, wf G adr u)) cx.1 cx.2.1 cx.2.2.1 cx.2.2.2.2.2.2 hz (tm M) hw ⟨rfl, rfl⟩ hd) hl hw
theorem q_442 : Cond.fieldLink RX4 18 "LiftFactors$RootFinder" "found" "I" ∈ uU := uU_in (by decide +kernel) (by decide +kernel)
theorem q_443 : Cond.fieldLink RX4 15 "LiftFactors$RootFinder" "below" "[J" ∈ uU := uU_in (by decide +kernel) (by decide +kernel)
theorem q_444 : Cond.fieldLink RX4 9 "LiftFactors$RootFinder" "above" "[J" ∈ uU := uU_in (by decide +kernel) (by decide +kernel)
def l_X4_add_16 (a0 : Int) (a1 : Int) : MI × Int → Option ((MI × Int) ⊕ (MI × Int)) := fun (M1, v2) =>
  Option.bind (gI v2 0) fun _ =>
  if v2 ≤ 0 then
    some (.inl (M1, v2))
  else
    Option.bind (odJ M1 33 (v2 - (1))) fun v3 =>
    Option.bind (odJ M1 32 (v2 - (1))) fun v4 =>
    Option.bind (gJ (a0 * v3) (v4 * a1)) fun _ =>
    if (v4 * a1) ≤ (a0 * v3) then
      some (.inl (M1, v2))
    else
      Option.bind (odJ M1 32 (v2 - (1))) fun v5 =>
      Option.bind (osJ M1 32 v2 v5) fun v6 =>
      Option.bind (odJ v6 33 (v2 - (1))) fun v7 =>
      Option.bind (osJ v6 33 v2 v7) fun v8 =>
      some (.inr (v8, v2 + (-1)))
def f_X4_add (n : Nat) (a0 : Int) (a1 : Int) (M : MI) : Option MI :=
  Option.bind (gI (M.2 6 2) (10)) fun _ =>
  if (M.2 6 2) < (10) then
    Option.bind (lpF (l_X4_add_16 a0 a1) n (M, M.2 6 2)) fun (M10, v11) =>
    Option.bind (osJ M10 32 v11 a0) fun v12 =>
    Option.bind (osJ v12 33 v11 a1) fun v13 =>
    Option.bind (opI v13 6 2 ((v13.2 6 2) + (1))) fun v14 =>
    some v14
  else
    some M
set_option maxRecDepth 100000 in
set_option maxHeartbeats 8000000 in
theorem b_X4_add {p : Program} {l : Launch} {e : Env} {s : State} {m : MethodId} {args : Array Value} {below : List Frame} {meth : Method} {c : Code} {Q : State → Prop} {G : gG} {A : Nat → Prop} {adr : Nat → Nat} (cx : cX p s m args meth c cX4_add none 6 yX4_add.cls) (hi : adi adr) {n : Nat} {a0 : Int} {a1 : Int} {M M' : MI} 
    (h : f_X4_add n a0 a1 M = some M')
    (kr : ∀ (pc : Nat) (ls : Array Slot) (H : Heap) (locs : List Loc), decode cX4_add pc = .ok (.return_, 1) → wH G A s.heap s (LL adr) (wf G adr (tm M')) H locs → W p l e { frames := 0, cells := 0, slots := 0, locals := 0 } s m args below meth c H locs 0 0 Q (F0 m pc ls []))
    {ls : Array Slot} {H : Heap} {locs : List Loc} (hl : lv_has ls 6 [(0, .ref (adr 6)), (1, .long (Int64.ofInt a0)), (3, .long (Int64.ofInt a1))]) (hw : wH G A s.heap s (LL adr) (wf G adr (tm M)) H locs) : W p l e { frames := 0, cells := 0, slots := 0, locals := 0 } s m args below meth c H locs 0 0 Q (F0 m 0 ls []) := by
  obtain ⟨hx, hb, -, -, hown, hts, -⟩ := id cx
  have hown : s.vm.findClass RX4 = some m.cls := hown
  unfold f_X4_add at h
  refine lv_aload_n hx hb dX4_add_0 rfl (lv_at hl 0 rfl) ?_
  refine m_get (k := 6) (C := RX4) (T := TX4) (N := 5) (ref := "LiftFactors$RootFinder") (v := .int (Int32.ofInt (M.2 6 2))) hx hb hi hts inX4_u hown hw (by decide) rfl 2 (by decide) q_442 rfl rfl dX4_add_1 ?_
  refine lv_bipush (v := Int32.ofInt (10)) hx hb dX4_add_4 rfl ?_
  replace h := bnd h
  obtain ⟨_, hg, h⟩ := h
  refine o_icmp_lt (tgt := 10) hx hb hg dX4_add_6 (by decide) (fun hc => ?_) (fun hc => ?_)
  · replace h := ite_t hc h
    refine lv_aload_n hx hb dX4_add_10 rfl (lv_at hl 0 rfl) ?_
    refine m_get (k := 6) (C := RX4) (T := TX4) (N := 5) (ref := "LiftFactors$RootFinder") (v := .int (Int32.ofInt (M.2 6 2))) hx hb hi hts inX4_u hown hw (by decide) rfl 2 (by decide) q_442 rfl rfl dX4_add_11 ?_
    refine lv_istore (lv' := [(5, .int (Int32.ofInt (M.2 6 2))), (0, .ref (adr 6)), (1, .long (Int64.ofInt a0)), (3, .long (Int64.ofInt a1))]) hx hb dX4_add_14 hl (by decide) rfl (fun ls hl => ?_)
    replace h := bnd h
    obtain ⟨⟨M10, v11⟩, j9, h⟩ := h
    refine lp_W (Wst := fun (st : MI × Int) => ∀ (ls : Array Slot) (H : Heap) (locs : List Loc), lv_has ls 6 [(0, .ref (adr 6)), (1, .long (Int64.ofInt a0)), (3, .long (Int64.ofInt a1)), (5, .int (Int32.ofInt st.2))] → wH G A s.heap s (LL adr) (wf G adr (tm st.1)) H locs → W p l e { frames := 0, cells := 0, slots := 0, locals := 0 } s m args below meth c H locs 0 0 Q (F0 m 16 ls [])) (fin := fun (r : MI × Int) => ∀ (ls : Array Slot) (H : Heap) (locs : List Loc), lv_has ls 6 [(0, .ref (adr 6)), (1, .long (Int64.ofInt a0)), (3, .long (Int64.ofInt a1)), (5, .int (Int32.ofInt r.2))] → wH G A s.heap s (LL adr) (wf G adr (tm r.1)) H locs → W p l e { frames := 0, cells := 0, slots := 0, locals := 0 } s m args below meth c H locs 0 0 Q (F0 m 85 ls [])) ?_ n _ _ j9 ?_ _ _ _ (lv_sub hl [1, 2, 3, 0] rfl) hw
    · clear h j9 hw hl
      intro ⟨M1, v2⟩ x h k1 k2 ls H locs hl hw
      (try dsimp only at k1 k2 hl hw ⊢)
      unfold l_X4_add_16 at h
      (try dsimp only at h)
      refine lv_iload hx hb dX4_add_16 (lv_at hl 3 rfl) ?_
      replace h := bnd h
      obtain ⟨_, hg, h⟩ := h
      refine o_if_le (tgt := 85) hx hb hg dX4_add_18 (by decide) (fun hc => ?_) (fun hc => ?_)
      · replace h := ite_t hc h
        cases h
        exact k1 _ rfl _ _ _ (lv_sub hl [0, 1, 2, 3] rfl) hw
      · replace h := ite_f hc h
        refine lv_lload_n hx hb dX4_add_21 rfl (lv_at hl 1 rfl) ?_
        refine lv_aload_n hx hb dX4_add_22 rfl (lv_at hl 0 rfl) ?_
        refine m_get (k := 6) (C := RX4) (T := TX4) (N := 5) (ref := "LiftFactors$RootFinder") (v := .ref (adr 33)) hx hb hi hts inX4_u hown hw (by decide) rfl 1 (by decide) q_443 rfl rfl dX4_add_23 ?_
        refine lv_iload hx hb dX4_add_26 (lv_at hl 3 rfl) ?_
        refine lv_iconst (v := Int32.ofInt (1)) hx hb dX4_add_28 rfl ?_
        refine o_isub hx hb dX4_add_29 ?_
        replace h := bnd h
        obtain ⟨v3, e3, h⟩ := h
        refine o_lald hx hb hi hw e3 dX4_add_30 ?_
        refine o_lmul hx hb dX4_add_31 ?_
        refine lv_aload_n hx hb dX4_add_32 rfl (lv_at hl 0 rfl) ?_
        refine m_get (k := 6) (C := RX4) (T := TX4) (N := 5) (ref := "LiftFactors$RootFinder") (v := .ref (adr 32)) hx hb hi hts inX4_u hown hw (by decide) rfl 0 (by decide) q_444 rfl rfl dX4_add_33 ?_
        refine lv_iload hx hb dX4_add_36 (lv_at hl 3 rfl) ?_
        refine lv_iconst (v := Int32.ofInt (1)) hx hb dX4_add_38 rfl ?_
        refine o_isub hx hb dX4_add_39 ?_
        replace h := bnd h
        obtain ⟨v4, e4, h⟩ := h
        refine o_lald hx hb hi hw e4 dX4_add_40 ?_
        refine lv_lload_n hx hb dX4_add_41 rfl (lv_at hl 2 rfl) ?_
        refine o_lmul hx hb dX4_add_42 ?_
        replace h := bnd h
        obtain ⟨_, hg, h⟩ := h
        refine o_lcmp_ge (tgt := 85) hx hb hg dX4_add_43 dX4_add_44 (by decide) (fun hc => ?_) (fun hc => ?_)
        · replace h := ite_t hc h
          cases h
          exact k1 _ rfl _ _ _ (lv_sub hl [0, 1, 2, 3] rfl) hw
        · replace h := ite_f hc h
          refine lv_aload_n hx hb dX4_add_47 rfl (lv_at hl 0 rfl) ?_
          refine m_get (k := 6) (C := RX4) (T := TX4) (N := 5) (ref := "LiftFactors$RootFinder") (v := .ref (adr 32)) hx hb hi hts inX4_u hown hw (by decide) rfl 0 (by decide) q_444 rfl rfl dX4_add_48 ?_
          refine lv_iload hx hb dX4_add_51 (lv_at hl 3 rfl) ?_
          refine lv_aload_n hx hb dX4_add_53 rfl (lv_at hl 0 rfl) ?_
          refine m_get (k := 6) (C := RX4) (T := TX4) (N := 5) (ref := "LiftFactors$RootFinder") (v := .ref (adr 32)) hx hb hi hts inX4_u hown hw (by decide) rfl 0 (by decide) q_444 rfl rfl dX4_add_54 ?_
          refine lv_iload hx hb dX4_add_57 (lv_at hl 3 rfl) ?_
          refine lv_iconst (v := Int32.ofInt (1)) hx hb dX4_add_59 rfl ?_
          refine o_isub hx hb dX4_add_60 ?_
          replace h := bnd h
          obtain ⟨v5, e5, h⟩ := h
          refine o_lald hx hb hi hw e5 dX4_add_61 ?_
          replace h := bnd h
          obtain ⟨v6, e6, h⟩ := h
          refine o_last hx hb hi hw e6 dX4_add_62 (fun H locs hw => ?_)
          refine lv_aload_n hx hb dX4_add_63 rfl (lv_at hl 0 rfl) ?_
          refine m_get (k := 6) (C := RX4) (T := TX4) (N := 5) (ref := "LiftFactors$RootFinder") (v := .ref (adr 33)) hx hb hi hts inX4_u hown hw (by decide) rfl 1 (by decide) q_443 rfl rfl dX4_add_64 ?_
          refine lv_iload hx hb dX4_add_67 (lv_at hl 3 rfl) ?_
          refine lv_aload_n hx hb dX4_add_69 rfl (lv_at hl 0 rfl) ?_
          refine m_get (k := 6) (C := RX4) (T := TX4) (N := 5) (ref := "LiftFactors$RootFinder") (v := .ref (adr 33)) hx hb hi hts inX4_u hown hw (by decide) rfl 1 (by decide) q_443 rfl rfl dX4_add_70 ?_
          refine lv_iload hx hb dX4_add_73 (lv_at hl 3 rfl) ?_
          refine lv_iconst (v := Int32.ofInt (1)) hx hb dX4_add_75 rfl ?_
          refine o_isub hx hb dX4_add_76 ?_
          replace h := bnd h
          obtain ⟨v7, e7, h⟩ := h
          refine o_lald hx hb hi hw e7 dX4_add_77 ?_
          replace h := bnd h
          obtain ⟨v8, e8, h⟩ := h
          refine o_last hx hb hi hw e8 dX4_add_78 (fun H locs hw => ?_)
          refine lv_iinc (v := Int32.ofInt (v2 + (-1))) (lv' := [(5, .int (Int32.ofInt (v2 + (-1)))), (0, .ref (adr 6)), (1, .long (Int64.ofInt a0)), (3, .long (Int64.ofInt a1))]) hx hb dX4_add_79 hl (k := 3) rfl (inc_o _ _) (by decide) rfl (fun ls hl => ?_)
          refine lv_goto (tgt := 16) hx hb dX4_add_82 (by decide) ?_
          cases h
          exact k2 _ rfl _ _ _ (lv_sub hl [1, 2, 3, 0] rfl) hw
    · clear hw hl
      intro ls H locs hl hw
      (try dsimp only at hl hw ⊢)
      refine lv_aload_n hx hb dX4_add_85 rfl (lv_at hl 0 rfl) ?_
      refine m_get (k := 6) (C := RX4) (T := TX4) (N := 5) (ref := "LiftFactors$RootFinder") (v := .ref (adr 32)) hx hb hi hts inX4_u hown hw (by decide) rfl 0 (by decide) q_444 rfl rfl dX4_add_86 ?_
      refine lv_iload hx hb dX4_add_89 (lv_at hl 3 rfl) ?_
      refine lv_lload_n hx hb dX4_add_91 rfl (lv_at hl 1 rfl) ?_
      replace h := bnd h
      obtain ⟨v12, e12, h⟩ := h
      refine o_last hx hb hi hw e12 dX4_add_92 (fun H locs hw => ?_)
      refine lv_aload_n hx hb dX4_add_93 rfl (lv_at hl 0 rfl) ?_
      refine m_get (k := 6) (C := RX4) (T := TX4) (N := 5) (ref := "LiftFactors$RootFinder") (v := .ref (adr 33)) hx hb hi hts inX4_u hown hw (by decide) rfl 1 (by decide) q_443 rfl rfl dX4_add_94 ?_
      refine lv_iload hx hb dX4_add_97 (lv_at hl 3 rfl) ?_
      refine lv_lload_n hx hb dX4_add_99 rfl (lv_at hl 2 rfl) ?_
      replace h := bnd h
      obtain ⟨v13, e13, h⟩ := h
      refine o_last hx hb hi hw e13 dX4_add_100 (fun H locs hw => ?_)
      refine lv_aload_n hx hb dX4_add_101 rfl (lv_at hl 0 rfl) ?_
      refine lv_dup hx hb dX4_add_102 rfl ?_
      refine m_get (k := 6) (C := RX4) (T := TX4) (N := 5) (ref := "LiftFactors$RootFinder") (v := .int (Int32.ofInt (v13.2 6 2))) hx hb hi hts inX4_u hown hw (by decide) rfl 2 (by decide) q_442 rfl rfl dX4_add_103 ?_
      refine lv_iconst (v := Int32.ofInt (1)) hx hb dX4_add_106 rfl ?_
      refine o_iadd hx hb dX4_add_107 ?_
      replace h := bnd h
      obtain ⟨v14, e14, h⟩ := h
      refine o_putI (k := 6) (C := RX4) (T := TX4) (N := 5) (ref := "LiftFactors$RootFinder") hx hb hi hts inX4_u tyX4 tyX4_ok nmX4 hown hw (by decide) rfl 2 (by decide) q_442 rfl rfl e14 (by decide +kernel) rfl dX4_add_108 (fun H locs hw => ?_)
      cases h
      exact kr _ _ _ _ dX4_add_111 hw
  · replace h := ite_f hc h
    cases h
    exact kr _ _ _ _ dX4_add_9 hw
theorem cc_X4_add {l : Launch} {G : gG} {adr : Nat → Nat} {sz : Nat} (hi : adi adr) {n : Nat} {a0 : Int} {a1 : Int} {M M' : MI} (h : f_X4_add n a0 a1 M = some M') : mV l yX4_add cX4_add 6 none { frames := 0, cells := 0, slots := 0, locals := 0 } G adr [.ref (adr 6), .long (Int64.ofInt a0), .long (Int64.ofInt a1)] (tm M) sz (tm M') := by
  refine wEnter (by decide) (Nat.le_of_ble_eq_true rfl) ?_
  intro p e s m below meth c ls cx hinit hl hsz hw
  exact b_X4_add cx hi h (fun pc ls H locs hd hw => w_vret (post := fun (u : Mem) => u = tm M') (lf := fun u => (LL adr, wf G adr u)) cx.1 cx.2.1 cx.2.2.1 cx.2.2.2.2.2.2 (tm M') hw rfl hd) hl hw
theorem q_445 : Cond.methodLink RX4 58 yX4_dividedBy ∈ uU := uU_in (by decide +kernel) (by decide +kernel)
theorem q_446 : Cond.static yX4_dividedBy ∈ uU := uU_in (by decide +kernel) (by decide +kernel)
theorem q_447 : Cond.initialized yX4_dividedBy.cls ∈ uU := uU_in (by decide +kernel) (by decide +kernel)
theorem q_448 : Cond.code yX4_dividedBy cX4_dividedBy 11 (some .boolean) ∈ uU := uU_in (by decide +kernel) (by decide +kernel)
theorem q_449 : Cond.methodLink RX4 34 yX4_add ∈ uU := uU_in (by decide +kernel) (by decide +kernel)
theorem q_450 : Cond.instanceMethod yX4_add ∈ uU := uU_in (by decide +kernel) (by decide +kernel)
theorem q_451 : Cond.selects yX4_add.cls yX4_add yX4_add ∈ uU := uU_in (by decide +kernel) (by decide +kernel)
theorem q_452 : Cond.initialized yX4_add.cls ∈ uU := uU_in (by decide +kernel) (by decide +kernel)
theorem q_453 : Cond.code yX4_add cX4_add 6 none ∈ uU := uU_in (by decide +kernel) (by decide +kernel)
def f_X4_addIfRoot (n : Nat) (a0 : Nat) (a1 : Int) (a2 : Int) (a3 : Int) (M : MI) : Option MI :=
  Option.bind (f_X4_dividedBy n a0 a1 a2 a3 M) fun v1 =>
  Option.bind (
    Option.bind (gI v1 0) fun _ =>
    if v1 = 0 then
      some M
    else
      Option.bind (f_X4_add n a2 a3 M) fun v2 =>
      some v2) fun M3 =>
  some M3
set_option maxRecDepth 100000 in
set_option maxHeartbeats 8000000 in
theorem b_X4_addIfRoot {p : Program} {l : Launch} {e : Env} {s : State} {m : MethodId} {args : Array Value} {below : List Frame} {meth : Method} {c : Code} {Q : State → Prop} {G : gG} {A : Nat → Prop} {adr : Nat → Nat} (cx : cX p s m args meth c cX4_addIfRoot none 7 yX4_addIfRoot.cls) (hi : adi adr) {n : Nat} {a0 : Nat} {a1 : Int} {a2 : Int} {a3 : Int} {M M' : MI} 
    (h : f_X4_addIfRoot n a0 a1 a2 a3 M = some M')
    (kr : ∀ (pc : Nat) (ls : Array Slot) (H : Heap) (locs : List Loc), decode cX4_addIfRoot pc = .ok (.return_, 1) → wH G A s.heap s (LL adr) (wf G adr (tm M')) H locs → W p l e { frames := 2, cells := 0, slots := 0, locals := 51 } s m args below meth c H locs 0 0 Q (F0 m pc ls []))
    {ls : Array Slot} {H : Heap} {locs : List Loc} (hl : lv_has ls 7 [(0, .ref (adr 6)), (1, .ref (adr a0)), (2, .int (Int32.ofInt a1)), (3, .long (Int64.ofInt a2)), (5, .long (Int64.ofInt a3))]) (hw : wH G A s.heap s (LL adr) (wf G adr (tm M)) H locs) : W p l e { frames := 2, cells := 0, slots := 0, locals := 51 } s m args below meth c H locs 0 0 Q (F0 m 0 ls []) := by
  obtain ⟨hx, hb, -, -, hown, hts, -⟩ := id cx
  have hown : s.vm.findClass RX4 = some m.cls := hown
  unfold f_X4_addIfRoot at h
  refine lv_aload_n hx hb dX4_addIfRoot_0 rfl (lv_at hl 1 rfl) ?_
  refine lv_iload_n hx hb dX4_addIfRoot_1 rfl (lv_at hl 2 rfl) ?_
  refine lv_lload_n hx hb dX4_addIfRoot_2 rfl (lv_at hl 3 rfl) ?_
  refine lv_lload hx hb dX4_addIfRoot_3 (lv_at hl 4 rfl) ?_
  replace h := bnd h
  obtain ⟨v1, e1, h⟩ := h
  refine m_callSi (As := [.ref (adr a0), .int (Int32.ofInt a1), .long (Int64.ofInt a2), .long (Int64.ofInt a3)]) (rest := []) cx.fix hw (cc_X4_dividedBy (l := l) (G := G) (sz := H.size) hi e1) (w_cS 4 hts q_445 q_446 q_447 q_448 rfl rfl (by decide) (by decide)) hl.1 rfl (lv_room (Nat.le_of_ble_eq_true rfl)) dX4_addIfRoot_5 (fun H locs hw => ?_)
  replace h := bnd h
  obtain ⟨M3, j4, h⟩ := h
  have kj : ∀ (ls : Array Slot) (H : Heap) (locs : List Loc), lv_has ls 7 [] → wH G A s.heap s (LL adr) (wf G adr (tm M3)) H locs → W p l e { frames := 2, cells := 0, slots := 0, locals := 51 } s m args below meth c H locs 0 0 Q (F0 m 18 ls []) := by
    intro ls H locs hl hw
    cases h
    exact kr _ _ _ _ dX4_addIfRoot_18 hw
  clear h
  replace h := j4
  clear j4
  replace h := bnd h
  obtain ⟨_, hg, h⟩ := h
  refine o_if_eq (tgt := 18) hx hb hg dX4_addIfRoot_8 (by decide) (fun hc => ?_) (fun hc => ?_)
  · replace h := ite_t hc h
    cases h
    exact kj _ _ _ (lv_sub hl [] rfl) hw
  · replace h := ite_f hc h
    refine lv_aload_n hx hb dX4_addIfRoot_11 rfl (lv_at hl 0 rfl) ?_
    refine lv_lload_n hx hb dX4_addIfRoot_12 rfl (lv_at hl 3 rfl) ?_
    refine lv_lload hx hb dX4_addIfRoot_13 (lv_at hl 4 rfl) ?_
    replace h := bnd h
    obtain ⟨v2, e2, h⟩ := h
    refine m_callVv (k := 6) (As := [.long (Int64.ofInt a2), .long (Int64.ofInt a3)]) (rest := []) cx.fix hi hw (cc_X4_add (l := l) (G := G) (sz := H.size) hi e2) (by decide) rfl rfl (w_cV 2 hts q_449 q_450 q_451 q_452 q_453 rfl rfl (by decide) (by decide)) hl.1 rfl (lv_room (Nat.le_of_ble_eq_true rfl)) dX4_addIfRoot_15 (fun H locs hw => ?_)
    cases h
    exact kj _ _ _ (lv_sub hl [] rfl) hw
theorem cc_X4_addIfRoot {l : Launch} {G : gG} {adr : Nat → Nat} {sz : Nat} (hi : adi adr) {n : Nat} {a0 : Nat} {a1 : Int} {a2 : Int} {a3 : Int} {M M' : MI} (h : f_X4_addIfRoot n a0 a1 a2 a3 M = some M') : mV l yX4_addIfRoot cX4_addIfRoot 7 none { frames := 2, cells := 0, slots := 0, locals := 51 } G adr [.ref (adr 6), .ref (adr a0), .int (Int32.ofInt a1), .long (Int64.ofInt a2), .long (Int64.ofInt a3)] (tm M) sz (tm M') := by
  refine wEnter (by decide) (Nat.le_of_ble_eq_true rfl) ?_
  intro p e s m below meth c ls cx hinit hl hsz hw
  exact b_X4_addIfRoot cx hi h (fun pc ls H locs hd hw => w_vret (post := fun (u : Mem) => u = tm M') (lf := fun u => (LL adr, wf G adr u)) cx.1 cx.2.1 cx.2.2.1 cx.2.2.2.2.2.2 (tm M') hw rfl hd) hl hw
theorem q_454 : Cond.fieldLink RX4 22 "LiftFactors$RootFinder" "heads" "[J" ∈ uU := uU_in (by decide +kernel) (by decide +kernel)
theorem q_455 : Cond.methodLink RX4 38 yX4_listDivisors ∈ uU := uU_in (by decide +kernel) (by decide +kernel)
theorem q_456 : Cond.static yX4_listDivisors ∈ uU := uU_in (by decide +kernel) (by decide +kernel)
theorem q_457 : Cond.initialized yX4_listDivisors.cls ∈ uU := uU_in (by decide +kernel) (by decide +kernel)
theorem q_458 : Cond.code yX4_listDivisors cX4_listDivisors 8 (some .int) ∈ uU := uU_in (by decide +kernel) (by decide +kernel)
theorem q_459 : Cond.fieldLink RX4 25 "LiftFactors$RootFinder" "tails" "[J" ∈ uU := uU_in (by decide +kernel) (by decide +kernel)
theorem q_460 : Cond.methodLink RX4 42 yX4_addIfRoot ∈ uU := uU_in (by decide +kernel) (by decide +kernel)
theorem q_461 : Cond.instanceMethod yX4_addIfRoot ∈ uU := uU_in (by decide +kernel) (by decide +kernel)
theorem q_462 : Cond.selects yX4_addIfRoot.cls yX4_addIfRoot yX4_addIfRoot ∈ uU := uU_in (by decide +kernel) (by decide +kernel)
theorem q_463 : Cond.initialized yX4_addIfRoot.cls ∈ uU := uU_in (by decide +kernel) (by decide +kernel)
theorem q_464 : Cond.code yX4_addIfRoot cX4_addIfRoot 7 none ∈ uU := uU_in (by decide +kernel) (by decide +kernel)
def l_X4_findRoots_18 (a0 : Nat) (v1 : MI) (v2 : Int) : Int → Option ((Int) ⊕ (Int)) := fun v3 =>
  Option.bind (gI v3 v2) fun _ =>
  if v2 ≤ v3 then
    some (.inl v3)
  else
    Option.bind (odJ v1 a0 v3) fun v4 =>
    Option.bind (gJ v4 (0)) fun _ =>
    if v4 = (0) then
      some (.inr (v3 + 1))
    else
      some (.inl v3)
def l_X4_findRoots_89 (n : Nat) (a0 : Nat) (v6 : Int) (v13 : Int) (v16 : Int) : MI × Int → Option ((MI) ⊕ (MI × Int)) := fun (M17, v18) =>
  Option.bind (gI v18 v13) fun _ =>
  if v13 ≤ v18 then
    some (.inl M17)
  else
    Option.bind (odJ M17 35 v18) fun v19 =>
    Option.bind (odJ M17 34 v16) fun v20 =>
    Option.bind (f_X4_addIfRoot n a0 v6 v19 v20 M17) fun v21 =>
    Option.bind (odJ v21 35 v18) fun v22 =>
    Option.bind (odJ v21 34 v16) fun v23 =>
    Option.bind (f_X4_addIfRoot n a0 v6 (-v22) v23 v21) fun v24 =>
    some (.inr (v24, v18 + 1))
def l_X4_findRoots_74 (n : Nat) (a0 : Nat) (v2 : Int) (v6 : Int) (v10 : Int) (v13 : Int) : MI × Int → Option ((MI) ⊕ (MI × Int)) := fun (M15, v16) =>
  Option.bind (gI v16 v10) fun _ =>
  if v10 ≤ v16 then
    some (.inl M15)
  else
    Option.bind (gI v6 v2) fun _ =>
    if v2 ≤ v6 then
      some (.inl M15)
    else
      Option.bind (lpF (l_X4_findRoots_89 n a0 v6 v13 v16) n (M15, (0))) fun M26 =>
      some (.inr (M26, v16 + 1))
def f_X4_findRoots (n : Nat) (a0 : Nat) (M : MI) : Option MI :=
  Option.bind (opI M 6 2 (0)) fun v1 =>
  Option.bind (f_X5_degree n a0 v1) fun v2 =>
  Option.bind (gI v2 (1)) fun _ =>
  if (1) ≤ v2 then
    Option.bind (lpF (l_X4_findRoots_18 a0 v1 v2) n (0)) fun v6 =>
    Option.bind (
      Option.bind (gI v6 0) fun _ =>
      if v6 ≤ 0 then
        some v1
      else
        Option.bind (f_X4_add n (0) (1) v1) fun v7 =>
        some v7) fun M8 =>
    Option.bind (odJ M8 a0 v2) fun v9 =>
    Option.bind (f_X4_listDivisors n v9 34 M8) fun (v10, M11) =>
    Option.bind (odJ M11 a0 v6) fun v12 =>
    Option.bind (f_X4_listDivisors n v12 35 M11) fun (v13, M14) =>
    Option.bind (lpF (l_X4_findRoots_74 n a0 v2 v6 v10 v13) n (M14, (0))) fun M28 =>
    some M28
  else
    some v1
set_option maxRecDepth 100000 in
set_option maxHeartbeats 8000000 in
theorem b_X4_findRoots {p : Program} {l : Launch} {e : Env} {s : State} {m : MethodId} {args : Array Value} {below : List Frame} {meth : Method} {c : Code} {Q : State → Prop} {G : gG} {A : Nat → Prop} {adr : Nat → Nat} (cx : cX p s m args meth c cX4_findRoots none 8 yX4_findRoots.cls) (hi : adi adr) {n : Nat} {a0 : Nat} {M M' : MI} 
    (h : f_X4_findRoots n a0 M = some M')
    (kr : ∀ (pc : Nat) (ls : Array Slot) (H : Heap) (locs : List Loc), decode cX4_findRoots pc = .ok (.return_, 1) → wH G A s.heap s (LL adr) (wf G adr (tm M')) H locs → W p l e { frames := 3, cells := 0, slots := 0, locals := 77 } s m args below meth c H locs 0 0 Q (F0 m pc ls []))
    {ls : Array Slot} {H : Heap} {locs : List Loc} (hl : lv_has ls 8 [(0, .ref (adr 6)), (1, .ref (adr a0))]) (hw : wH G A s.heap s (LL adr) (wf G adr (tm M)) H locs) : W p l e { frames := 3, cells := 0, slots := 0, locals := 77 } s m args below meth c H locs 0 0 Q (F0 m 0 ls []) := by
  obtain ⟨hx, hb, -, -, hown, hts, -⟩ := id cx
  have hown : s.vm.findClass RX4 = some m.cls := hown
  unfold f_X4_findRoots at h
  refine lv_aload_n hx hb dX4_findRoots_0 rfl (lv_at hl 0 rfl) ?_
  refine lv_iconst (v := Int32.ofInt (0)) hx hb dX4_findRoots_1 rfl ?_
  replace h := bnd h
  obtain ⟨v1, e1, h⟩ := h
  refine o_putI (k := 6) (C := RX4) (T := TX4) (N := 5) (ref := "LiftFactors$RootFinder") hx hb hi hts inX4_u tyX4 tyX4_ok nmX4 hown hw (by decide) rfl 2 (by decide) q_442 rfl rfl e1 (by decide +kernel) rfl dX4_findRoots_2 (fun H locs hw => ?_)
  refine lv_aload_n hx hb dX4_findRoots_5 rfl (lv_at hl 1 rfl) ?_
  replace h := bnd h
  obtain ⟨v2, e2, h⟩ := h
  refine m_callSi (As := [.ref (adr a0)]) (rest := []) cx.fix hw (cc_X5_degree (l := l) (G := G) (sz := H.size) hi e2) (w_cS 1 hts q_440 q_246 q_247 q_248 rfl rfl (by decide) (by decide)) hl.1 rfl (lv_room (Nat.le_of_ble_eq_true rfl)) dX4_findRoots_6 (fun H locs hw => ?_)
  refine lv_istore_n (lv' := [(2, .int (Int32.ofInt v2)), (0, .ref (adr 6)), (1, .ref (adr a0))]) hx hb dX4_findRoots_9 rfl hl (by decide) rfl (fun ls hl => ?_)
  refine lv_iload_n hx hb dX4_findRoots_10 rfl (lv_at hl 0 rfl) ?_
  refine lv_iconst (v := Int32.ofInt (1)) hx hb dX4_findRoots_11 rfl ?_
  replace h := bnd h
  obtain ⟨_, hg, h⟩ := h
  refine o_icmp_ge (tgt := 16) hx hb hg dX4_findRoots_12 (by decide) (fun hc => ?_) (fun hc => ?_)
  · replace h := ite_t hc h
    refine lv_iconst (v := Int32.ofInt (0)) hx hb dX4_findRoots_16 rfl ?_
    refine lv_istore_n (lv' := [(3, .int (Int32.ofInt (0))), (2, .int (Int32.ofInt v2)), (0, .ref (adr 6)), (1, .ref (adr a0))]) hx hb dX4_findRoots_17 rfl hl (by decide) rfl (fun ls hl => ?_)
    replace h := bnd h
    obtain ⟨v6, j5, h⟩ := h
    refine lp_W (Wst := fun (st : Int) => ∀ (ls : Array Slot) (H : Heap) (locs : List Loc), lv_has ls 8 [(0, .ref (adr 6)), (1, .ref (adr a0)), (2, .int (Int32.ofInt v2)), (3, .int (Int32.ofInt st))] → wH G A s.heap s (LL adr) (wf G adr (tm v1)) H locs → W p l e { frames := 3, cells := 0, slots := 0, locals := 77 } s m args below meth c H locs 0 0 Q (F0 m 18 ls [])) (fin := fun (r : Int) => ∀ (ls : Array Slot) (H : Heap) (locs : List Loc), lv_has ls 8 [(0, .ref (adr 6)), (1, .ref (adr a0)), (2, .int (Int32.ofInt v2)), (3, .int (Int32.ofInt r))] → wH G A s.heap s (LL adr) (wf G adr (tm v1)) H locs → W p l e { frames := 3, cells := 0, slots := 0, locals := 77 } s m args below meth c H locs 0 0 Q (F0 m 37 ls [])) ?_ n _ _ j5 ?_ _ _ _ (lv_sub hl [2, 3, 1, 0] rfl) hw
    · clear h j5 hw hl
      intro v3 x h k1 k2 ls H locs hl hw
      (try dsimp only at k1 k2 hl hw ⊢)
      unfold l_X4_findRoots_18 at h
      (try dsimp only at h)
      refine lv_iload_n hx hb dX4_findRoots_18 rfl (lv_at hl 3 rfl) ?_
      refine lv_iload_n hx hb dX4_findRoots_19 rfl (lv_at hl 2 rfl) ?_
      replace h := bnd h
      obtain ⟨_, hg, h⟩ := h
      refine o_icmp_ge (tgt := 37) hx hb hg dX4_findRoots_20 (by decide) (fun hc => ?_) (fun hc => ?_)
      · replace h := ite_t hc h
        cases h
        exact k1 _ rfl _ _ _ (lv_sub hl [0, 1, 2, 3] rfl) hw
      · replace h := ite_f hc h
        refine lv_aload_n hx hb dX4_findRoots_23 rfl (lv_at hl 1 rfl) ?_
        refine lv_iload_n hx hb dX4_findRoots_24 rfl (lv_at hl 3 rfl) ?_
        replace h := bnd h
        obtain ⟨v4, e4, h⟩ := h
        refine o_lald hx hb hi hw e4 dX4_findRoots_25 ?_
        refine lv_lconst (v := Int64.ofInt (0)) hx hb dX4_findRoots_26 (by decide) ?_
        replace h := bnd h
        obtain ⟨_, hg, h⟩ := h
        refine o_lcmp_ne (tgt := 37) hx hb hg dX4_findRoots_27 dX4_findRoots_28 (by decide) (fun hc => ?_) (fun hc => ?_)
        · replace h := ite_f hc h
          cases h
          exact k1 _ rfl _ _ _ (lv_sub hl [0, 1, 2, 3] rfl) hw
        · replace h := ite_t hc h
          refine lv_iinc (v := Int32.ofInt (v3 + 1)) (lv' := [(3, .int (Int32.ofInt (v3 + 1))), (0, .ref (adr 6)), (1, .ref (adr a0)), (2, .int (Int32.ofInt v2))]) hx hb dX4_findRoots_31 hl (k := 3) rfl (inc_o _ _) (by decide) rfl (fun ls hl => ?_)
          refine lv_goto (tgt := 18) hx hb dX4_findRoots_34 (by decide) ?_
          cases h
          exact k2 _ rfl _ _ _ (lv_sub hl [1, 2, 3, 0] rfl) hw
    · clear hw hl
      intro ls H locs hl hw
      (try dsimp only at hl hw ⊢)
      refine lv_iload_n hx hb dX4_findRoots_37 rfl (lv_at hl 3 rfl) ?_
      replace h := bnd h
      obtain ⟨M8, j29, h⟩ := h
      have kj : ∀ (ls : Array Slot) (H : Heap) (locs : List Loc), lv_has ls 8 [(0, .ref (adr 6)), (1, .ref (adr a0)), (2, .int (Int32.ofInt v2)), (3, .int (Int32.ofInt v6))] → wH G A s.heap s (LL adr) (wf G adr (tm M8)) H locs → W p l e { frames := 3, cells := 0, slots := 0, locals := 77 } s m args below meth c H locs 0 0 Q (F0 m 47 ls []) := by
        intro ls H locs hl hw
        refine lv_aload_n hx hb dX4_findRoots_47 rfl (lv_at hl 1 rfl) ?_
        refine lv_iload_n hx hb dX4_findRoots_48 rfl (lv_at hl 2 rfl) ?_
        replace h := bnd h
        obtain ⟨v9, e9, h⟩ := h
        refine o_lald hx hb hi hw e9 dX4_findRoots_49 ?_
        refine lv_aload_n hx hb dX4_findRoots_50 rfl (lv_at hl 0 rfl) ?_
        refine m_get (k := 6) (C := RX4) (T := TX4) (N := 5) (ref := "LiftFactors$RootFinder") (v := .ref (adr 34)) hx hb hi hts inX4_u hown hw (by decide) rfl 3 (by decide) q_454 rfl rfl dX4_findRoots_51 ?_
        replace h := bnd h
        obtain ⟨⟨v10, M11⟩, e10, h⟩ := h
        refine m_callSi (As := [.long (Int64.ofInt v9), .ref (adr 34)]) (rest := []) cx.fix hw (cc_X4_listDivisors (l := l) (G := G) (sz := H.size) hi e10) (w_cS 2 hts q_455 q_456 q_457 q_458 rfl rfl (by decide) (by decide)) hl.1 rfl (lv_room (Nat.le_of_ble_eq_true rfl)) dX4_findRoots_54 (fun H locs hw => ?_)
        refine lv_istore (lv' := [(4, .int (Int32.ofInt v10)), (0, .ref (adr 6)), (1, .ref (adr a0)), (2, .int (Int32.ofInt v2)), (3, .int (Int32.ofInt v6))]) hx hb dX4_findRoots_57 hl (by decide) rfl (fun ls hl => ?_)
        refine lv_aload_n hx hb dX4_findRoots_59 rfl (lv_at hl 2 rfl) ?_
        refine lv_iload_n hx hb dX4_findRoots_60 rfl (lv_at hl 4 rfl) ?_
        replace h := bnd h
        obtain ⟨v12, e12, h⟩ := h
        refine o_lald hx hb hi hw e12 dX4_findRoots_61 ?_
        refine lv_aload_n hx hb dX4_findRoots_62 rfl (lv_at hl 1 rfl) ?_
        refine m_get (k := 6) (C := RX4) (T := TX4) (N := 5) (ref := "LiftFactors$RootFinder") (v := .ref (adr 35)) hx hb hi hts inX4_u hown hw (by decide) rfl 4 (by decide) q_459 rfl rfl dX4_findRoots_63 ?_
        replace h := bnd h
        obtain ⟨⟨v13, M14⟩, e13, h⟩ := h
        refine m_callSi (As := [.long (Int64.ofInt v12), .ref (adr 35)]) (rest := []) cx.fix hw (cc_X4_listDivisors (l := l) (G := G) (sz := H.size) hi e13) (w_cS 2 hts q_455 q_456 q_457 q_458 rfl rfl (by decide) (by decide)) hl.1 rfl (lv_room (Nat.le_of_ble_eq_true rfl)) dX4_findRoots_66 (fun H locs hw => ?_)
        refine lv_istore (lv' := [(5, .int (Int32.ofInt v13)), (4, .int (Int32.ofInt v10)), (0, .ref (adr 6)), (1, .ref (adr a0)), (2, .int (Int32.ofInt v2)), (3, .int (Int32.ofInt v6))]) hx hb dX4_findRoots_69 hl (by decide) rfl (fun ls hl => ?_)
        refine lv_iconst (v := Int32.ofInt (0)) hx hb dX4_findRoots_71 rfl ?_
        refine lv_istore (lv' := [(6, .int (Int32.ofInt (0))), (5, .int (Int32.ofInt v13)), (4, .int (Int32.ofInt v10)), (0, .ref (adr 6)), (1, .ref (adr a0)), (2, .int (Int32.ofInt v2)), (3, .int (Int32.ofInt v6))]) hx hb dX4_findRoots_72 hl (by decide) rfl (fun ls hl => ?_)
        replace h := bnd h
        obtain ⟨M28, j27, h⟩ := h
        refine lp_W (Wst := fun (st : MI × Int) => ∀ (ls : Array Slot) (H : Heap) (locs : List Loc), lv_has ls 8 [(0, .ref (adr 6)), (1, .ref (adr a0)), (2, .int (Int32.ofInt v2)), (3, .int (Int32.ofInt v6)), (4, .int (Int32.ofInt v10)), (5, .int (Int32.ofInt v13)), (6, .int (Int32.ofInt st.2))] → wH G A s.heap s (LL adr) (wf G adr (tm st.1)) H locs → W p l e { frames := 3, cells := 0, slots := 0, locals := 77 } s m args below meth c H locs 0 0 Q (F0 m 74 ls [])) (fin := fun (r : MI) => ∀ (ls : Array Slot) (H : Heap) (locs : List Loc), lv_has ls 8 [] → wH G A s.heap s (LL adr) (wf G adr (tm r)) H locs → W p l e { frames := 3, cells := 0, slots := 0, locals := 77 } s m args below meth c H locs 0 0 Q (F0 m 149 ls [])) ?_ n _ _ j27 ?_ _ _ _ (lv_sub hl [3, 4, 5, 6, 2, 1, 0] rfl) hw
        · clear h j27 hw hl
          intro ⟨M15, v16⟩ x h k1 k2 ls H locs hl hw
          (try dsimp only at k1 k2 hl hw ⊢)
          unfold l_X4_findRoots_74 at h
          (try dsimp only at h)
          refine lv_iload hx hb dX4_findRoots_74 (lv_at hl 6 rfl) ?_
          refine lv_iload hx hb dX4_findRoots_76 (lv_at hl 4 rfl) ?_
          replace h := bnd h
          obtain ⟨_, hg, h⟩ := h
          refine o_icmp_ge (tgt := 149) hx hb hg dX4_findRoots_78 (by decide) (fun hc => ?_) (fun hc => ?_)
          · replace h := ite_t hc h
            cases h
            exact k1 _ rfl _ _ _ (lv_sub hl [] rfl) hw
          · replace h := ite_f hc h
            refine lv_iload_n hx hb dX4_findRoots_81 rfl (lv_at hl 3 rfl) ?_
            refine lv_iload_n hx hb dX4_findRoots_82 rfl (lv_at hl 2 rfl) ?_
            replace h := bnd h
            obtain ⟨_, hg, h⟩ := h
            refine o_icmp_ge (tgt := 149) hx hb hg dX4_findRoots_83 (by decide) (fun hc => ?_) (fun hc => ?_)
            · replace h := ite_t hc h
              cases h
              exact k1 _ rfl _ _ _ (lv_sub hl [] rfl) hw
            · replace h := ite_f hc h
              refine lv_iconst (v := Int32.ofInt (0)) hx hb dX4_findRoots_86 rfl ?_
              refine lv_istore (lv' := [(7, .int (Int32.ofInt (0))), (0, .ref (adr 6)), (1, .ref (adr a0)), (2, .int (Int32.ofInt v2)), (3, .int (Int32.ofInt v6)), (4, .int (Int32.ofInt v10)), (5, .int (Int32.ofInt v13)), (6, .int (Int32.ofInt v16))]) hx hb dX4_findRoots_87 hl (by decide) rfl (fun ls hl => ?_)
              replace h := bnd h
              obtain ⟨M26, j25, h⟩ := h
              refine lp_W (Wst := fun (st : MI × Int) => ∀ (ls : Array Slot) (H : Heap) (locs : List Loc), lv_has ls 8 [(0, .ref (adr 6)), (1, .ref (adr a0)), (2, .int (Int32.ofInt v2)), (3, .int (Int32.ofInt v6)), (4, .int (Int32.ofInt v10)), (5, .int (Int32.ofInt v13)), (6, .int (Int32.ofInt v16)), (7, .int (Int32.ofInt st.2))] → wH G A s.heap s (LL adr) (wf G adr (tm st.1)) H locs → W p l e { frames := 3, cells := 0, slots := 0, locals := 77 } s m args below meth c H locs 0 0 Q (F0 m 89 ls [])) (fin := fun (r : MI) => ∀ (ls : Array Slot) (H : Heap) (locs : List Loc), lv_has ls 8 [(0, .ref (adr 6)), (1, .ref (adr a0)), (2, .int (Int32.ofInt v2)), (3, .int (Int32.ofInt v6)), (4, .int (Int32.ofInt v10)), (5, .int (Int32.ofInt v13)), (6, .int (Int32.ofInt v16))] → wH G A s.heap s (LL adr) (wf G adr (tm r)) H locs → W p l e { frames := 3, cells := 0, slots := 0, locals := 77 } s m args below meth c H locs 0 0 Q (F0 m 143 ls [])) ?_ n _ _ j25 ?_ _ _ _ (lv_sub hl [1, 2, 3, 4, 5, 6, 7, 0] rfl) hw
              · clear h j25 hw hl
                intro ⟨M17, v18⟩ x h k1 k2 ls H locs hl hw
                (try dsimp only at k1 k2 hl hw ⊢)
                unfold l_X4_findRoots_89 at h
                (try dsimp only at h)
                refine lv_iload hx hb dX4_findRoots_89 (lv_at hl 7 rfl) ?_
                refine lv_iload hx hb dX4_findRoots_91 (lv_at hl 5 rfl) ?_
                replace h := bnd h
                obtain ⟨_, hg, h⟩ := h
                refine o_icmp_ge (tgt := 143) hx hb hg dX4_findRoots_93 (by decide) (fun hc => ?_) (fun hc => ?_)
                · replace h := ite_t hc h
                  cases h
                  exact k1 _ rfl _ _ _ (lv_sub hl [0, 1, 2, 3, 4, 5, 6] rfl) hw
                · replace h := ite_f hc h
                  refine lv_aload_n hx hb dX4_findRoots_96 rfl (lv_at hl 0 rfl) ?_
                  refine lv_aload_n hx hb dX4_findRoots_97 rfl (lv_at hl 1 rfl) ?_
                  refine lv_iload_n hx hb dX4_findRoots_98 rfl (lv_at hl 3 rfl) ?_
                  refine lv_aload_n hx hb dX4_findRoots_99 rfl (lv_at hl 0 rfl) ?_
                  refine m_get (k := 6) (C := RX4) (T := TX4) (N := 5) (ref := "LiftFactors$RootFinder") (v := .ref (adr 35)) hx hb hi hts inX4_u hown hw (by decide) rfl 4 (by decide) q_459 rfl rfl dX4_findRoots_100 ?_
                  refine lv_iload hx hb dX4_findRoots_103 (lv_at hl 7 rfl) ?_
                  replace h := bnd h
                  obtain ⟨v19, e19, h⟩ := h
                  refine o_lald hx hb hi hw e19 dX4_findRoots_105 ?_
                  refine lv_aload_n hx hb dX4_findRoots_106 rfl (lv_at hl 0 rfl) ?_
                  refine m_get (k := 6) (C := RX4) (T := TX4) (N := 5) (ref := "LiftFactors$RootFinder") (v := .ref (adr 34)) hx hb hi hts inX4_u hown hw (by decide) rfl 3 (by decide) q_454 rfl rfl dX4_findRoots_107 ?_
                  refine lv_iload hx hb dX4_findRoots_110 (lv_at hl 6 rfl) ?_
                  replace h := bnd h
                  obtain ⟨v20, e20, h⟩ := h
                  refine o_lald hx hb hi hw e20 dX4_findRoots_112 ?_
                  replace h := bnd h
                  obtain ⟨v21, e21, h⟩ := h
                  refine m_callVv (k := 6) (As := [.ref (adr a0), .int (Int32.ofInt v6), .long (Int64.ofInt v19), .long (Int64.ofInt v20)]) (rest := []) cx.fix hi hw (cc_X4_addIfRoot (l := l) (G := G) (sz := H.size) hi e21) (by decide) rfl rfl (w_cV 4 hts q_460 q_461 q_462 q_463 q_464 rfl rfl (by decide) (by decide)) hl.1 rfl (lv_room (Nat.le_of_ble_eq_true rfl)) dX4_findRoots_113 (fun H locs hw => ?_)
                  refine lv_aload_n hx hb dX4_findRoots_116 rfl (lv_at hl 0 rfl) ?_
                  refine lv_aload_n hx hb dX4_findRoots_117 rfl (lv_at hl 1 rfl) ?_
                  refine lv_iload_n hx hb dX4_findRoots_118 rfl (lv_at hl 3 rfl) ?_
                  refine lv_aload_n hx hb dX4_findRoots_119 rfl (lv_at hl 0 rfl) ?_
                  refine m_get (k := 6) (C := RX4) (T := TX4) (N := 5) (ref := "LiftFactors$RootFinder") (v := .ref (adr 35)) hx hb hi hts inX4_u hown hw (by decide) rfl 4 (by decide) q_459 rfl rfl dX4_findRoots_120 ?_
                  refine lv_iload hx hb dX4_findRoots_123 (lv_at hl 7 rfl) ?_
                  replace h := bnd h
                  obtain ⟨v22, e22, h⟩ := h
                  refine o_lald hx hb hi hw e22 dX4_findRoots_125 ?_
                  refine o_lneg hx hb dX4_findRoots_126 ?_
                  refine lv_aload_n hx hb dX4_findRoots_127 rfl (lv_at hl 0 rfl) ?_
                  refine m_get (k := 6) (C := RX4) (T := TX4) (N := 5) (ref := "LiftFactors$RootFinder") (v := .ref (adr 34)) hx hb hi hts inX4_u hown hw (by decide) rfl 3 (by decide) q_454 rfl rfl dX4_findRoots_128 ?_
                  refine lv_iload hx hb dX4_findRoots_131 (lv_at hl 6 rfl) ?_
                  replace h := bnd h
                  obtain ⟨v23, e23, h⟩ := h
                  refine o_lald hx hb hi hw e23 dX4_findRoots_133 ?_
                  replace h := bnd h
                  obtain ⟨v24, e24, h⟩ := h
                  refine m_callVv (k := 6) (As := [.ref (adr a0), .int (Int32.ofInt v6), .long (Int64.ofInt (-v22)), .long (Int64.ofInt v23)]) (rest := []) cx.fix hi hw (cc_X4_addIfRoot (l := l) (G := G) (sz := H.size) hi e24) (by decide) rfl rfl (w_cV 4 hts q_460 q_461 q_462 q_463 q_464 rfl rfl (by decide) (by decide)) hl.1 rfl (lv_room (Nat.le_of_ble_eq_true rfl)) dX4_findRoots_134 (fun H locs hw => ?_)
                  refine lv_iinc (v := Int32.ofInt (v18 + 1)) (lv' := [(7, .int (Int32.ofInt (v18 + 1))), (0, .ref (adr 6)), (1, .ref (adr a0)), (2, .int (Int32.ofInt v2)), (3, .int (Int32.ofInt v6)), (4, .int (Int32.ofInt v10)), (5, .int (Int32.ofInt v13)), (6, .int (Int32.ofInt v16))]) hx hb dX4_findRoots_137 hl (k := 7) rfl (inc_o _ _) (by decide) rfl (fun ls hl => ?_)
                  refine lv_goto (tgt := 89) hx hb dX4_findRoots_140 (by decide) ?_
                  cases h
                  exact k2 _ rfl _ _ _ (lv_sub hl [1, 2, 3, 4, 5, 6, 7, 0] rfl) hw
              · clear hw hl
                intro ls H locs hl hw
                (try dsimp only at hl hw ⊢)
                refine lv_iinc (v := Int32.ofInt (v16 + 1)) (lv' := [(6, .int (Int32.ofInt (v16 + 1))), (0, .ref (adr 6)), (1, .ref (adr a0)), (2, .int (Int32.ofInt v2)), (3, .int (Int32.ofInt v6)), (4, .int (Int32.ofInt v10)), (5, .int (Int32.ofInt v13))]) hx hb dX4_findRoots_143 hl (k := 6) rfl (inc_o _ _) (by decide) rfl (fun ls hl => ?_)
                refine lv_goto (tgt := 74) hx hb dX4_findRoots_146 (by decide) ?_
                cases h
                exact k2 _ rfl _ _ _ (lv_sub hl [1, 2, 3, 4, 5, 6, 0] rfl) hw
        · clear hw hl
          intro ls H locs hl hw
          (try dsimp only at hl hw ⊢)
          cases h
          exact kr _ _ _ _ dX4_findRoots_149 hw
      clear h
      replace h := j29
      clear j29
      replace h := bnd h
      obtain ⟨_, hg, h⟩ := h
      refine o_if_le (tgt := 47) hx hb hg dX4_findRoots_38 (by decide) (fun hc => ?_) (fun hc => ?_)
      · replace h := ite_t hc h
        cases h
        exact kj _ _ _ (lv_sub hl [0, 1, 2, 3] rfl) hw
      · replace h := ite_f hc h
        refine lv_aload_n hx hb dX4_findRoots_41 rfl (lv_at hl 0 rfl) ?_
        refine lv_lconst (v := Int64.ofInt (0)) hx hb dX4_findRoots_42 (by decide) ?_
        refine lv_lconst (v := Int64.ofInt (1)) hx hb dX4_findRoots_43 (by decide) ?_
        replace h := bnd h
        obtain ⟨v7, e7, h⟩ := h
        refine m_callVv (k := 6) (As := [.long (Int64.ofInt (0)), .long (Int64.ofInt (1))]) (rest := []) cx.fix hi hw (cc_X4_add (l := l) (G := G) (sz := H.size) hi e7) (by decide) rfl rfl (w_cV 2 hts q_449 q_450 q_451 q_452 q_453 rfl rfl (by decide) (by decide)) hl.1 rfl (lv_room (Nat.le_of_ble_eq_true rfl)) dX4_findRoots_44 (fun H locs hw => ?_)
        cases h
        exact kj _ _ _ (lv_sub hl [0, 1, 2, 3] rfl) hw
  · replace h := ite_f hc h
    cases h
    exact kr _ _ _ _ dX4_findRoots_15 hw
theorem cc_X4_findRoots {l : Launch} {G : gG} {adr : Nat → Nat} {sz : Nat} (hi : adi adr) {n : Nat} {a0 : Nat} {M M' : MI} (h : f_X4_findRoots n a0 M = some M') : mV l yX4_findRoots cX4_findRoots 8 none { frames := 3, cells := 0, slots := 0, locals := 77 } G adr [.ref (adr 6), .ref (adr a0)] (tm M) sz (tm M') := by
  refine wEnter (by decide) (Nat.le_of_ble_eq_true rfl) ?_
  intro p e s m below meth c ls cx hinit hl hsz hw
  exact b_X4_findRoots cx hi h (fun pc ls H locs hd hw => w_vret (post := fun (u : Mem) => u = tm M') (lf := fun u => (LL adr, wf G adr u)) cx.1 cx.2.1 cx.2.2.1 cx.2.2.2.2.2.2 (tm M') hw rfl hd) hl hw
