theorem q_606 : Cond.constant RX7 218 (1000000) ∈ uU := uU_in (by decide +kernel) (by decide +kernel)
theorem q_607 : Cond.methodLink RX7 221 yJ9_floorMod_7cf53 ∈ uU := uU_in (by decide +kernel) (by decide +kernel)
theorem q_608 : Cond.static yJ9_floorMod_7cf53 ∈ uU := uU_in (by decide +kernel) (by decide +kernel)
theorem q_609 : Cond.initialized yJ9_floorMod_7cf53.cls ∈ uU := uU_in (by decide +kernel) (by decide +kernel)
theorem q_610 : Cond.code yJ9_floorMod_7cf53 cJ9_floorMod_7cf53 3 (some .int) ∈ uU := uU_in (by decide +kernel) (by decide +kernel)
theorem q_611 : Cond.methodLink RX7 227 yJ9_floorMod_f86c9 ∈ uU := uU_in (by decide +kernel) (by decide +kernel)
def l_X7_value_40 (a0 : Int) (a2 : Int) (M2 : MI) (v3 : Int) : Int × Int → Option ((Int) ⊕ (Int × Int)) := fun (v5, v6) =>
  Option.bind (gI v6 0) fun _ =>
  if v6 < 0 then
    some (.inl v5)
  else
    Option.bind (odA 7 a0) fun v7 =>
    Option.bind (odI M2 v7 v6) fun v8 =>
    Option.bind (gI v8 0) fun v9 =>
    Option.bind (gI a2 0) fun v10 =>
    Option.bind (f_J9_floorMod_f86c9 ((v5 * v3) + v8) a2) fun v11 =>
    some (.inr (v11, v6 + (-1)))
def f_X7_value (n : Nat) (a0 : Int) (a1 : Int) (a2 : Int) (M : MI) : Option ((Nat × MI) ⊕ (Int × MI)) :=
  Option.bind (f_X7_requirePolynomial a0 M) fun v1 => match v1 with
  | .inl o => some (.inl o)
  | .inr M2 =>
  Option.bind (gI a2 (1)) fun _ =>
  if a2 < (1) then
    some (.inl (3, M2))
  else
    Option.bind (gI a2 (1000000)) fun _ =>
    if a2 ≤ (1000000) then
      Option.bind (f_J9_floorModW a1 a2) fun v3 =>
      Option.bind (gI v3 0) fun v4 =>
      Option.bind (lpF (l_X7_value_40 a0 a2 M2 v3) n ((0), (10))) fun v13 =>
      Option.bind (gJ v13 0) fun v14 =>
      some (.inr (v13, M2))
    else
      some (.inl (3, M2))
set_option maxRecDepth 100000 in
set_option maxHeartbeats 8000000 in
theorem b_X7_value {p : Program} {l : Launch} (hl0 : l.stackTraces = false) {e : Env} {s : State} {m : MethodId} {args : Array Value} {below : List Frame} {meth : Method} {c : Code} {Qc : Array Value → State → Outcome → State → Prop} {G : gG} {A : Nat → Prop} {adr : Nat → Nat} (cx : cX p s m args meth c cX7_value (some .int) 9 yX7_value.cls) (hnt : ∀ x ∈ c.exceptionTable.toList, False) (hY : tY A s s.heap) (hi : adi adr) {n : Nat} {a0 : Int} {a1 : Int} {a2 : Int} {M : MI} {o9 : (Nat × MI) ⊕ (Int × MI)} 
    (kr : (match o9 with | .inl _ => True | .inr q9 => ∀ (pc : Nat) (ls : Array Slot) (H : Heap) (locs : List Loc), decode cX7_value pc = .ok (.ireturn, 1) → wH G A s.heap s (LL adr) (wf G adr (tm q9.2)) H locs → W p l e { frames := 8, cells := 2, slots := 12, locals := 115 } s m args below meth c H locs 1 6 (vx_MQ below Qc (xX G A (LL adr) (fun E g => ∃ k M', o9 = .inl (k, M') ∧ E = eN k ∧ g = wf G adr (tm M'))) args s 2 12 A) (F0 m pc ls [.int (Int32.ofInt q9.1)])))
    (h : f_X7_value n a0 a1 a2 M = some o9)
    {ls : Array Slot} {H : Heap} {locs : List Loc} (hl : lv_has ls 9 [(0, .ref (adr 0)), (1, .int (Int32.ofInt a0)), (2, .int (Int32.ofInt a1)), (3, .int (Int32.ofInt a2))]) (hw : wH G A s.heap s (LL adr) (wf G adr (tm M)) H locs) : W p l e { frames := 8, cells := 2, slots := 12, locals := 115 } s m args below meth c H locs 0 0 (vx_MQ below Qc (xX G A (LL adr) (fun E g => ∃ k M', o9 = .inl (k, M') ∧ E = eN k ∧ g = wf G adr (tm M'))) args s 2 12 A) (F0 m 0 ls []) := by
  obtain ⟨hx, hb, -, hml, hown, hts, hlocks⟩ := id cx
  have hown : s.vm.findClass RX7 = some m.cls := hown
  unfold f_X7_value at h
  refine lv_iload_n hx hb dX7_value_0 rfl (lv_at hl 1 rfl) ?_
  replace h := bnd h
  obtain ⟨v1, e1, h⟩ := h
  refine y_callSv (c1 := 1) (s1 := 6) (As := [.int (Int32.ofInt a0)]) (rest := []) cx.fix hY hw (cc_X7_requirePolynomial (l := l) (G := G) (sz := H.size) hl0 hi e1) (w_cS 1 hts q_539 q_540 q_541 q_542 rfl rfl (by decide) (by decide)) hl.1 rfl (lv_room (Nat.le_of_ble_eq_true rfl)) dX7_value_1 (by decide) rfl rfl (fun k9 M9 ce q9 H locs ho hw hce hcv hcl => ?_) (fun M2 H locs ho hw => ?_)
  · subst ho
    cases h
    exact x_out hnt hlocks hw ⟨k9, M9, rfl, rfl, rfl⟩ hce hcv hcl (by decide) (by decide)
  subst ho
  (try dsimp only at h)
  refine lv_iload_n hx hb dX7_value_4 rfl (lv_at hl 3 rfl) ?_
  refine lv_iconst (v := Int32.ofInt (1)) hx hb dX7_value_5 rfl ?_
  replace h := bnd h
  obtain ⟨_, hg, h⟩ := h
  refine o_icmp_lt (tgt := 15) hx hb hg dX7_value_6 (by decide) (fun hc => ?_) (fun hc => ?_)
  · replace h := ite_t hc h
    cases h
    exact w_throwS (cls := nIA) (text := "no such modulus") hx hb hl0 hown hts fit_IA fitn_2 uw_classLink_RX7_109_nIA uw_initialized_nIA (by decide +kernel) at_IA an_IA ot_IA hY.1 hw (hl.1.trans hml.symm) dX7_value_15 dX7_value_18 dX7_value_19 dX7_value_21 dX7_value_24 hnt (by decide) (by decide) (by decide) (by decide) hlocks ⟨3, _, rfl, rfl, rfl⟩ (by decide) (by decide)
  · replace h := ite_f hc h
    refine lv_iload_n hx hb dX7_value_9 rfl (lv_at hl 3 rfl) ?_
    refine lv_ldc (v := Int32.ofInt (1000000)) hx hb hown (hts _ q_606) dX7_value_10 ?_
    replace h := bnd h
    obtain ⟨_, hg, h⟩ := h
    refine o_icmp_le (tgt := 25) hx hb hg dX7_value_12 (by decide) (fun hc => ?_) (fun hc => ?_)
    · replace h := ite_t hc h
      refine lv_iload_n hx hb dX7_value_25 rfl (lv_at hl 2 rfl) ?_
      refine lv_iload_n hx hb dX7_value_26 rfl (lv_at hl 3 rfl) ?_
      replace h := bnd h
      obtain ⟨v3, e3, h⟩ := h
      refine n_callSi (As := [.int (Int32.ofInt a1), .int (Int32.ofInt a2)]) (rest := []) cx.fix hw (cc_J9_floorModW (l := l) (G := G) (sz := H.size) (M := M2) hi e3) (w_cS 2 hts q_607 q_608 q_609 q_610 rfl rfl (by decide) (by decide)) (by decide) hl.1 rfl (lv_room (Nat.le_of_ble_eq_true rfl)) dX7_value_27 (fun H locs hw => ?_)
      replace h := bnd h
      obtain ⟨v4, e4, h⟩ := h
      refine o_i2l hx hb e4 dX7_value_30 ?_
      refine lv_lstore (lv' := [(4, .long (Int64.ofInt v3)), (0, .ref (adr 0)), (1, .int (Int32.ofInt a0)), (2, .int (Int32.ofInt a1)), (3, .int (Int32.ofInt a2))]) hx hb dX7_value_31 hl (by decide) rfl (fun ls hl => ?_)
      refine lv_lconst (v := Int64.ofInt (0)) hx hb dX7_value_33 (by decide) ?_
      refine lv_lstore (lv' := [(6, .long (Int64.ofInt (0))), (4, .long (Int64.ofInt v3)), (0, .ref (adr 0)), (1, .int (Int32.ofInt a0)), (2, .int (Int32.ofInt a1)), (3, .int (Int32.ofInt a2))]) hx hb dX7_value_34 hl (by decide) rfl (fun ls hl => ?_)
      refine lv_bipush (v := Int32.ofInt (10)) hx hb dX7_value_36 rfl ?_
      refine lv_istore (lv' := [(8, .int (Int32.ofInt (10))), (6, .long (Int64.ofInt (0))), (4, .long (Int64.ofInt v3)), (0, .ref (adr 0)), (1, .int (Int32.ofInt a0)), (2, .int (Int32.ofInt a1)), (3, .int (Int32.ofInt a2))]) hx hb dX7_value_38 hl (by decide) rfl (fun ls hl => ?_)
      replace h := bnd h
      obtain ⟨v13, j12, h⟩ := h
      refine lp_W (Wst := fun (st : Int × Int) => ∀ (ls : Array Slot) (H : Heap) (locs : List Loc), lv_has ls 9 [(0, .ref (adr 0)), (1, .int (Int32.ofInt a0)), (3, .int (Int32.ofInt a2)), (4, .long (Int64.ofInt v3)), (6, .long (Int64.ofInt st.1)), (8, .int (Int32.ofInt st.2))] → wH G A s.heap s (LL adr) (wf G adr (tm M2)) H locs → W p l e { frames := 8, cells := 2, slots := 12, locals := 115 } s m args below meth c H locs 1 6 (vx_MQ below Qc (xX G A (LL adr) (fun E g => ∃ k M', o9 = .inl (k, M') ∧ E = eN k ∧ g = wf G adr (tm M'))) args s 2 12 A) (F0 m 40 ls [])) (fin := fun (r : Int) => ∀ (ls : Array Slot) (H : Heap) (locs : List Loc), lv_has ls 9 [(6, .long (Int64.ofInt r))] → wH G A s.heap s (LL adr) (wf G adr (tm M2)) H locs → W p l e { frames := 8, cells := 2, slots := 12, locals := 115 } s m args below meth c H locs 1 6 (vx_MQ below Qc (xX G A (LL adr) (fun E g => ∃ k M', o9 = .inl (k, M') ∧ E = eN k ∧ g = wf G adr (tm M'))) args s 2 12 A) (F0 m 74 ls [])) ?_ n _ _ j12 ?_ _ _ _ (lv_sub hl [3, 4, 6, 2, 1, 0] rfl) hw
      · clear h j12 hw hl
        intro ⟨v5, v6⟩ x h k1 k2 ls H locs hl hw
        (try dsimp only at k1 k2 hl hw ⊢)
        unfold l_X7_value_40 at h
        (try dsimp only at h)
        refine lv_iload hx hb dX7_value_40 (lv_at hl 5 rfl) ?_
        replace h := bnd h
        obtain ⟨_, hg, h⟩ := h
        refine o_if_lt (tgt := 74) hx hb hg dX7_value_42 (by decide) (fun hc => ?_) (fun hc => ?_)
        · replace h := ite_t hc h
          cases h
          exact k1 _ rfl _ _ _ (lv_sub hl [4] rfl) hw
        · replace h := ite_f hc h
          refine lv_lload hx hb dX7_value_45 (lv_at hl 4 rfl) ?_
          refine lv_lload hx hb dX7_value_47 (lv_at hl 3 rfl) ?_
          refine o_lmul hx hb dX7_value_49 ?_
          refine lv_aload_n hx hb dX7_value_50 rfl (lv_at hl 0 rfl) ?_
          refine m_get (k := 0) (C := RX7) (T := TX7) (N := 15) (ref := "LiftFactors") (v := .ref (adr 7)) hx hb hi hts inX7_u hown hw (by decide) rfl 0 (by decide) q_466 rfl rfl dX7_value_51 ?_
          refine lv_iload_n hx hb dX7_value_54 rfl (lv_at hl 1 rfl) ?_
          replace h := bnd h
          obtain ⟨v7, e7, h⟩ := h
          refine o_aald hx hb hi hw e7 dX7_value_55 ?_
          refine lv_iload hx hb dX7_value_56 (lv_at hl 5 rfl) ?_
          replace h := bnd h
          obtain ⟨v8, e8, h⟩ := h
          refine o_iald hx hb hi hw e8 dX7_value_58 ?_
          replace h := bnd h
          obtain ⟨v9, e9, h⟩ := h
          refine o_i2l hx hb e9 dX7_value_59 ?_
          refine o_ladd hx hb dX7_value_60 ?_
          refine lv_iload_n hx hb dX7_value_61 rfl (lv_at hl 2 rfl) ?_
          replace h := bnd h
          obtain ⟨v10, e10, h⟩ := h
          refine o_i2l hx hb e10 dX7_value_62 ?_
          replace h := bnd h
          obtain ⟨v11, e11, h⟩ := h
          refine n_callSl (As := [.long (Int64.ofInt ((v5 * v3) + v8)), .long (Int64.ofInt a2)]) (rest := []) cx.fix hw (cc_J9_floorMod_f86c9 (l := l) (G := G) (sz := H.size) (M := M2) hi e11) (w_cS 2 hts q_611 q_277 q_278 q_279 rfl rfl (by decide) (by decide)) (by decide) hl.1 rfl (lv_room (Nat.le_of_ble_eq_true rfl)) dX7_value_63 (fun H locs hw => ?_)
          refine lv_lstore (lv' := [(6, .long (Int64.ofInt v11)), (0, .ref (adr 0)), (1, .int (Int32.ofInt a0)), (3, .int (Int32.ofInt a2)), (4, .long (Int64.ofInt v3)), (8, .int (Int32.ofInt v6))]) hx hb dX7_value_66 hl (by decide) rfl (fun ls hl => ?_)
          refine lv_iinc (v := Int32.ofInt (v6 + (-1))) (lv' := [(8, .int (Int32.ofInt (v6 + (-1)))), (6, .long (Int64.ofInt v11)), (0, .ref (adr 0)), (1, .int (Int32.ofInt a0)), (3, .int (Int32.ofInt a2)), (4, .long (Int64.ofInt v3))]) hx hb dX7_value_68 hl (k := 5) rfl (inc_o _ _) (by decide) rfl (fun ls hl => ?_)
          refine lv_goto (tgt := 40) hx hb dX7_value_71 (by decide) ?_
          cases h
          exact k2 _ rfl _ _ _ (lv_sub hl [2, 3, 4, 5, 1, 0] rfl) hw
      · clear hw hl
        intro ls H locs hl hw
        (try dsimp only at hl hw ⊢)
        refine lv_lload hx hb dX7_value_74 (lv_at hl 0 rfl) ?_
        replace h := bnd h
        obtain ⟨v14, e14, h⟩ := h
        refine o_l2i hx hb e14 dX7_value_76 ?_
        cases h
        exact kr _ _ _ _ dX7_value_77 hw
    · replace h := ite_f hc h
      cases h
      exact w_throwS (cls := nIA) (text := "no such modulus") hx hb hl0 hown hts fit_IA fitn_2 uw_classLink_RX7_109_nIA uw_initialized_nIA (by decide +kernel) at_IA an_IA ot_IA hY.1 hw (hl.1.trans hml.symm) dX7_value_15 dX7_value_18 dX7_value_19 dX7_value_21 dX7_value_24 hnt (by decide) (by decide) (by decide) (by decide) hlocks ⟨3, _, rfl, rfl, rfl⟩ (by decide) (by decide)
theorem cc_X7_value {l : Launch} (hl0 : l.stackTraces = false) {G : gG} {adr : Nat → Nat} {sz : Nat} (hi : adi adr) {n : Nat} {a0 : Int} {a1 : Int} {a2 : Int} {M : MI} {o9 : (Nat × MI) ⊕ (Int × MI)} (h : f_X7_value n a0 a1 a2 M = some o9) : yI l yX7_value cX7_value 9 (some .int) { frames := 8, cells := 2, slots := 12, locals := 115 } G adr [.ref (adr 0), .int (Int32.ofInt a0), .int (Int32.ofInt a1), .int (Int32.ofInt a2)] (tm M) sz 2 12 o9 := by
  refine yEnterX (by decide) (Nat.le_of_ble_eq_true rfl) ?_
  intro p e s m below meth c ls cx hnt hl hsz hw hY
  refine b_X7_value hl0 cx hnt hY hi ?_ h hl hw
  clear h
  rcases o9 with o9 | q9
  · trivial
  · dsimp only
    intro pc ls H locs hd hw
    refine vx_ret ?_
    refine W.widen (k := 2) (n := 12) (by decide) (by decide) ?_
    exact w_iret (post := fun (r9 : Int32) (u : Mem) => ∃ r M', Sum.inr q9 = (.inr (r, M') : (Nat × MI) ⊕ (Int × MI)) ∧ r9 = Int32.ofInt r ∧ u = tm M') (lf := fun u => (LL adr, wf G adr u)) cx.1 cx.2.1 cx.2.2.1 cx.2.2.2.2.2.2 (tm q9.2) hw ⟨q9.1, q9.2, rfl, rfl, rfl⟩ hd
