theorem q_605 : Cond.methodLink RX7 215 yX5_derive ∈ uU := uU_in (by decide +kernel) (by decide +kernel)
def f_X7_squareFree (n : Nat) (a0 : Int) (M : MI) : Option ((Nat × MI) ⊕ (Int × MI)) :=
  Option.bind (f_X7_requirePolynomial a0 M) fun v1 => match v1 with
  | .inl o => some (.inl o)
  | .inr M2 =>
  Option.bind (f_X7_load n a0 10 M2) fun v3 =>
  Option.bind (f_X5_degree n 10 v3) fun v4 =>
  Option.bind (gI v4 0) fun _ =>
  if 0 ≤ v4 then
    Option.bind (f_X5_derive n 10 11 v3) fun v5 =>
    Option.bind (f_X0_find n 10 11 12 v5) fun v6 =>
    Option.bind (f_X5_degree n 12 v6) fun v7 =>
    Option.bind (
      Option.bind (gI v7 0) fun _ =>
      if v7 = 0 then
        some (1)
      else
        some (0)) fun v8 =>
    Option.bind (obz v8) fun v9 =>
    some (.inr (v9, v6))
  else
    some (.inr ((0), v3))
set_option maxRecDepth 100000 in
set_option maxHeartbeats 8000000 in
theorem b_X7_squareFree {p : Program} {l : Launch} (hl0 : l.stackTraces = false) {e : Env} {s : State} {m : MethodId} {args : Array Value} {below : List Frame} {meth : Method} {c : Code} {Qc : Array Value → State → Outcome → State → Prop} {G : gG} {A : Nat → Prop} {adr : Nat → Nat} (cx : cX p s m args meth c cX7_squareFree (some .boolean) 2 yX7_squareFree.cls) (hnt : ∀ x ∈ c.exceptionTable.toList, False) (hY : tY A s s.heap) (hi : adi adr) {n : Nat} {a0 : Int} {M : MI} {o9 : (Nat × MI) ⊕ (Int × MI)} 
    (kr : (match o9 with | .inl _ => True | .inr q9 => ∀ (pc : Nat) (ls : Array Slot) (H : Heap) (locs : List Loc), decode cX7_squareFree pc = .ok (.ireturn, 1) → narrow .boolean (.int (Int32.ofInt q9.1)) = .int (Int32.ofInt q9.1) → wH G A s.heap s (LL adr) (wf G adr (tm q9.2)) H locs → W p l e { frames := 8, cells := 1, slots := 6, locals := 139 } s m args below meth c H locs 1 6 (vx_MQ below Qc (xX G A (LL adr) (fun E g => ∃ k M', o9 = .inl (k, M') ∧ E = eN k ∧ g = wf G adr (tm M'))) args s 1 6 A) (F0 m pc ls [.int (Int32.ofInt q9.1)])))
    (h : f_X7_squareFree n a0 M = some o9)
    {ls : Array Slot} {H : Heap} {locs : List Loc} (hl : lv_has ls 2 [(0, .ref (adr 0)), (1, .int (Int32.ofInt a0))]) (hw : wH G A s.heap s (LL adr) (wf G adr (tm M)) H locs) : W p l e { frames := 8, cells := 1, slots := 6, locals := 139 } s m args below meth c H locs 0 0 (vx_MQ below Qc (xX G A (LL adr) (fun E g => ∃ k M', o9 = .inl (k, M') ∧ E = eN k ∧ g = wf G adr (tm M'))) args s 1 6 A) (F0 m 0 ls []) := by
  obtain ⟨hx, hb, -, hml, hown, hts, hlocks⟩ := id cx
  have hown : s.vm.findClass RX7 = some m.cls := hown
  unfold f_X7_squareFree at h
  refine lv_iload_n hx hb dX7_squareFree_0 rfl (lv_at hl 1 rfl) ?_
  replace h := bnd h
  obtain ⟨v1, e1, h⟩ := h
  refine y_callSv (c1 := 1) (s1 := 6) (As := [.int (Int32.ofInt a0)]) (rest := []) cx.fix hY hw (cc_X7_requirePolynomial (l := l) (G := G) (sz := H.size) hl0 hi e1) (w_cS 1 hts q_539 q_540 q_541 q_542 rfl rfl (by decide) (by decide)) hl.1 rfl (lv_room (Nat.le_of_ble_eq_true rfl)) dX7_squareFree_1 (by decide) rfl rfl (fun k9 M9 ce q9 H locs ho hw hce hcv hcl => ?_) (fun M2 H locs ho hw => ?_)
  · subst ho
    cases h
    exact x_out hnt hlocks hw ⟨k9, M9, rfl, rfl, rfl⟩ hce hcv hcl (by decide) (by decide)
  subst ho
  (try dsimp only at h)
  refine lv_aload_n hx hb dX7_squareFree_4 rfl (lv_at hl 0 rfl) ?_
  refine lv_iload_n hx hb dX7_squareFree_5 rfl (lv_at hl 1 rfl) ?_
  refine lv_aload_n hx hb dX7_squareFree_6 rfl (lv_at hl 0 rfl) ?_
  refine m_get (k := 0) (C := RX7) (T := TX7) (N := 15) (ref := "LiftFactors") (v := .ref (adr 10)) hx hb hi hts inX7_u hown hw (by decide) rfl 5 (by decide) q_556 rfl rfl dX7_squareFree_7 ?_
  replace h := bnd h
  obtain ⟨v3, e3, h⟩ := h
  refine n_callVv (k := 0) (As := [.int (Int32.ofInt a0), .ref (adr 10)]) (rest := []) cx.fix hi hw (cc_X7_load (l := l) (G := G) (sz := H.size) hi e3) (by decide) rfl rfl (w_cV 2 hts q_557 q_558 q_559 q_560 q_561 rfl rfl (by decide) (by decide)) (by decide) hl.1 rfl (lv_room (Nat.le_of_ble_eq_true rfl)) dX7_squareFree_10 (fun H locs hw => ?_)
  refine lv_aload_n hx hb dX7_squareFree_13 rfl (lv_at hl 0 rfl) ?_
  refine m_get (k := 0) (C := RX7) (T := TX7) (N := 15) (ref := "LiftFactors") (v := .ref (adr 10)) hx hb hi hts inX7_u hown hw (by decide) rfl 5 (by decide) q_556 rfl rfl dX7_squareFree_14 ?_
  replace h := bnd h
  obtain ⟨v4, e4, h⟩ := h
  refine n_callSi (As := [.ref (adr 10)]) (rest := []) cx.fix hw (cc_X5_degree (l := l) (G := G) (sz := H.size) hi e4) (w_cS 1 hts q_563 q_246 q_247 q_248 rfl rfl (by decide) (by decide)) (by decide) hl.1 rfl (lv_room (Nat.le_of_ble_eq_true rfl)) dX7_squareFree_17 (fun H locs hw => ?_)
  replace h := bnd h
  obtain ⟨_, hg, h⟩ := h
  refine o_if_ge (tgt := 25) hx hb hg dX7_squareFree_20 (by decide) (fun hc => ?_) (fun hc => ?_)
  · replace h := ite_t hc h
    refine lv_aload_n hx hb dX7_squareFree_25 rfl (lv_at hl 0 rfl) ?_
    refine m_get (k := 0) (C := RX7) (T := TX7) (N := 15) (ref := "LiftFactors") (v := .ref (adr 10)) hx hb hi hts inX7_u hown hw (by decide) rfl 5 (by decide) q_556 rfl rfl dX7_squareFree_26 ?_
    refine lv_aload_n hx hb dX7_squareFree_29 rfl (lv_at hl 0 rfl) ?_
    refine m_get (k := 0) (C := RX7) (T := TX7) (N := 15) (ref := "LiftFactors") (v := .ref (adr 11)) hx hb hi hts inX7_u hown hw (by decide) rfl 6 (by decide) q_562 rfl rfl dX7_squareFree_30 ?_
    replace h := bnd h
    obtain ⟨v5, e5, h⟩ := h
    refine n_callSv (As := [.ref (adr 10), .ref (adr 11)]) (rest := []) cx.fix hw (cc_X5_derive (l := l) (G := G) (sz := H.size) hi e5) (w_cS 2 hts q_605 q_498 q_499 q_500 rfl rfl (by decide) (by decide)) (by decide) hl.1 rfl (lv_room (Nat.le_of_ble_eq_true rfl)) dX7_squareFree_33 (fun H locs hw => ?_)
    refine lv_aload_n hx hb dX7_squareFree_36 rfl (lv_at hl 0 rfl) ?_
    refine m_get (k := 0) (C := RX7) (T := TX7) (N := 15) (ref := "LiftFactors") (v := .ref (adr 3)) hx hb hi hts inX7_u hown hw (by decide) rfl 11 (by decide) q_567 rfl rfl dX7_squareFree_37 ?_
    refine lv_aload_n hx hb dX7_squareFree_40 rfl (lv_at hl 0 rfl) ?_
    refine m_get (k := 0) (C := RX7) (T := TX7) (N := 15) (ref := "LiftFactors") (v := .ref (adr 10)) hx hb hi hts inX7_u hown hw (by decide) rfl 5 (by decide) q_556 rfl rfl dX7_squareFree_41 ?_
    refine lv_aload_n hx hb dX7_squareFree_44 rfl (lv_at hl 0 rfl) ?_
    refine m_get (k := 0) (C := RX7) (T := TX7) (N := 15) (ref := "LiftFactors") (v := .ref (adr 11)) hx hb hi hts inX7_u hown hw (by decide) rfl 6 (by decide) q_562 rfl rfl dX7_squareFree_45 ?_
    refine lv_aload_n hx hb dX7_squareFree_48 rfl (lv_at hl 0 rfl) ?_
    refine m_get (k := 0) (C := RX7) (T := TX7) (N := 15) (ref := "LiftFactors") (v := .ref (adr 12)) hx hb hi hts inX7_u hown hw (by decide) rfl 7 (by decide) q_538 rfl rfl dX7_squareFree_49 ?_
    replace h := bnd h
    obtain ⟨v6, e6, h⟩ := h
    refine p_callVv (k := 3) (As := [.ref (adr 10), .ref (adr 11), .ref (adr 12)]) (rest := []) cx.fix hi hY hw (cc_X0_find (l := l) (G := G) (sz := H.size) hi e6) (by decide) rfl rfl (w_cV 3 hts q_568 q_503 q_504 q_505 q_506 rfl rfl (by decide) (by decide)) hl.1 rfl (lv_room (Nat.le_of_ble_eq_true rfl)) dX7_squareFree_52 (by decide) (fun H locs hw => ?_)
    refine lv_aload_n hx hb dX7_squareFree_55 rfl (lv_at hl 0 rfl) ?_
    refine m_get (k := 0) (C := RX7) (T := TX7) (N := 15) (ref := "LiftFactors") (v := .ref (adr 12)) hx hb hi hts inX7_u hown hw (by decide) rfl 7 (by decide) q_538 rfl rfl dX7_squareFree_56 ?_
    replace h := bnd h
    obtain ⟨v7, e7, h⟩ := h
    refine n_callSi (As := [.ref (adr 12)]) (rest := []) cx.fix hw (cc_X5_degree (l := l) (G := G) (sz := H.size) hi e7) (w_cS 1 hts q_563 q_246 q_247 q_248 rfl rfl (by decide) (by decide)) (by decide) hl.1 rfl (lv_room (Nat.le_of_ble_eq_true rfl)) dX7_squareFree_59 (fun H locs hw => ?_)
    replace h := bnd h
    obtain ⟨v8, j10, h⟩ := h
    have kj : ∀ (ls : Array Slot) (H : Heap) (locs : List Loc), lv_has ls 2 [] → wH G A s.heap s (LL adr) (wf G adr (tm v6)) H locs → W p l e { frames := 8, cells := 1, slots := 6, locals := 139 } s m args below meth c H locs 1 6 (vx_MQ below Qc (xX G A (LL adr) (fun E g => ∃ k M', o9 = .inl (k, M') ∧ E = eN k ∧ g = wf G adr (tm M'))) args s 1 6 A) (F0 m 70 ls [.int (Int32.ofInt v8)]) := by
      intro ls H locs hl hw
      replace h := bnd h
      obtain ⟨v9, eZ, h⟩ := h
      obtain ⟨rfl, eZ⟩ := obz_ok eZ
      cases h
      exact kr _ _ _ _ dX7_squareFree_70 eZ hw
    clear h
    replace h := j10
    clear j10
    replace h := bnd h
    obtain ⟨_, hg, h⟩ := h
    refine o_if_ne (tgt := 69) hx hb hg dX7_squareFree_62 (by decide) (fun hc => ?_) (fun hc => ?_)
    · replace h := ite_f hc h
      refine lv_iconst (v := Int32.ofInt (0)) hx hb dX7_squareFree_69 rfl ?_
      cases h
      exact kj _ _ _ (lv_sub hl [] rfl) hw
    · replace h := ite_t hc h
      refine lv_iconst (v := Int32.ofInt (1)) hx hb dX7_squareFree_65 rfl ?_
      refine lv_goto (tgt := 70) hx hb dX7_squareFree_66 (by decide) ?_
      cases h
      exact kj _ _ _ (lv_sub hl [] rfl) hw
  · replace h := ite_f hc h
    refine lv_iconst (v := Int32.ofInt (0)) hx hb dX7_squareFree_23 rfl ?_
    cases h
    exact kr _ _ _ _ dX7_squareFree_24 nb0 hw
theorem cc_X7_squareFree {l : Launch} (hl0 : l.stackTraces = false) {G : gG} {adr : Nat → Nat} {sz : Nat} (hi : adi adr) {n : Nat} {a0 : Int} {M : MI} {o9 : (Nat × MI) ⊕ (Int × MI)} (h : f_X7_squareFree n a0 M = some o9) : yI l yX7_squareFree cX7_squareFree 2 (some .boolean) { frames := 8, cells := 1, slots := 6, locals := 139 } G adr [.ref (adr 0), .int (Int32.ofInt a0)] (tm M) sz 1 6 o9 := by
  refine yEnterX (by decide) (Nat.le_of_ble_eq_true rfl) ?_
  intro p e s m below meth c ls cx hnt hl hsz hw hY
  refine b_X7_squareFree hl0 cx hnt hY hi ?_ h hl hw
  clear h
  rcases o9 with o9 | q9
  · trivial
  · dsimp only
    intro pc ls H locs hd hz hw
    refine vx_ret ?_
    refine W.widen (k := 1) (n := 6) (by decide) (by decide) ?_
    exact w_zret (post := fun (r9 : Int32) (u : Mem) => ∃ r M', Sum.inr q9 = (.inr (r, M') : (Nat × MI) ⊕ (Int × MI)) ∧ r9 = Int32.ofInt r ∧ u = tm M') (lf := fun u => (LL adr, wf G adr u)) cx.1 cx.2.1 cx.2.2.1 cx.2.2.2.2.2.2 hz (tm q9.2) hw ⟨q9.1, q9.2, rfl, rfl, rfl⟩ hd
