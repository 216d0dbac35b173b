def f_X7_at (a0 : Int) (a1 : Int) (M : MI) : Option ((Nat × MI) ⊕ (Int × MI)) :=
  Option.bind (f_X7_requirePolynomial a0 M) fun v1 => match v1 with
  | .inl o => some (.inl o)
  | .inr M2 =>
  Option.bind (f_X7_requirePower a1 M2) fun v3 => match v3 with
  | .inl o => some (.inl o)
  | .inr M4 =>
  Option.bind (odA 7 a0) fun v5 =>
  Option.bind (odI M4 v5 a1) fun v6 =>
  some (.inr (v6, M4))
set_option maxRecDepth 100000 in
set_option maxHeartbeats 8000000 in
theorem b_X7_at {p : Program} {l : Launch} (hl0 : l.stackTraces = false) {e : Env} {s : State} {m : MethodId} {args : Array Value} {below : List Frame} {meth : Method} {c : Code} {Qc : Array Value → State → Outcome → State → Prop} {G : gG} {A : Nat → Prop} {adr : Nat → Nat} (cx : cX p s m args meth c cX7_at (some .int) 3 yX7_at.cls) (hnt : ∀ x ∈ c.exceptionTable.toList, False) (hY : tY A s s.heap) (hi : adi adr) {a0 : Int} {a1 : Int} {M : MI} {o9 : (Nat × MI) ⊕ (Int × MI)} 
    (kr : (match o9 with | .inl _ => True | .inr q9 => ∀ (pc : Nat) (ls : Array Slot) (H : Heap) (locs : List Loc), decode cX7_at pc = .ok (.ireturn, 1) → wH G A s.heap s (LL adr) (wf G adr (tm q9.2)) H locs → W p l e { frames := 8, cells := 2, slots := 12, locals := 115 } s m args below meth c H locs 2 12 (vx_MQ below Qc (xX G A (LL adr) (fun E g => ∃ k M', o9 = .inl (k, M') ∧ E = eN k ∧ g = wf G adr (tm M'))) args s 2 12 A) (F0 m pc ls [.int (Int32.ofInt q9.1)])))
    (h : f_X7_at a0 a1 M = some o9)
    {ls : Array Slot} {H : Heap} {locs : List Loc} (hl : lv_has ls 3 [(0, .ref (adr 0)), (1, .int (Int32.ofInt a0)), (2, .int (Int32.ofInt a1))]) (hw : wH G A s.heap s (LL adr) (wf G adr (tm M)) H locs) : W p l e { frames := 8, cells := 2, slots := 12, locals := 115 } s m args below meth c H locs 0 0 (vx_MQ below Qc (xX G A (LL adr) (fun E g => ∃ k M', o9 = .inl (k, M') ∧ E = eN k ∧ g = wf G adr (tm M'))) args s 2 12 A) (F0 m 0 ls []) := by
  obtain ⟨hx, hb, -, hml, hown, hts, hlocks⟩ := id cx
  have hown : s.vm.findClass RX7 = some m.cls := hown
  unfold f_X7_at at h
  refine lv_iload_n hx hb dX7_at_0 rfl (lv_at hl 1 rfl) ?_
  replace h := bnd h
  obtain ⟨v1, e1, h⟩ := h
  refine y_callSv (c1 := 1) (s1 := 6) (As := [.int (Int32.ofInt a0)]) (rest := []) cx.fix hY hw (cc_X7_requirePolynomial (l := l) (G := G) (sz := H.size) hl0 hi e1) (w_cS 1 hts q_539 q_540 q_541 q_542 rfl rfl (by decide) (by decide)) hl.1 rfl (lv_room (Nat.le_of_ble_eq_true rfl)) dX7_at_1 (by decide) rfl rfl (fun k9 M9 ce q9 H locs ho hw hce hcv hcl => ?_) (fun M2 H locs ho hw => ?_)
  · subst ho
    cases h
    exact x_out hnt hlocks hw ⟨k9, M9, rfl, rfl, rfl⟩ hce hcv hcl (by decide) (by decide)
  subst ho
  (try dsimp only at h)
  refine lv_iload_n hx hb dX7_at_4 rfl (lv_at hl 2 rfl) ?_
  replace h := bnd h
  obtain ⟨v3, e3, h⟩ := h
  refine y_callSv (c1 := 2) (s1 := 12) (As := [.int (Int32.ofInt a1)]) (rest := []) cx.fix hY hw (cc_X7_requirePower (l := l) (G := G) (sz := H.size) hl0 hi e3) (w_cS 1 hts q_543 q_544 q_545 q_546 rfl rfl (by decide) (by decide)) hl.1 rfl (lv_room (Nat.le_of_ble_eq_true rfl)) dX7_at_5 (by decide) rfl rfl (fun k9 M9 ce q9 H locs ho hw hce hcv hcl => ?_) (fun M4 H locs ho hw => ?_)
  · subst ho
    cases h
    exact x_out hnt hlocks hw ⟨k9, M9, rfl, rfl, rfl⟩ hce hcv hcl (by decide) (by decide)
  subst ho
  (try dsimp only at h)
  refine lv_aload_n hx hb dX7_at_8 rfl (lv_at hl 0 rfl) ?_
  refine m_get (k := 0) (C := RX7) (T := TX7) (N := 15) (ref := "LiftFactors") (v := .ref (adr 7)) hx hb hi hts inX7_u hown hw (by decide) rfl 0 (by decide) q_466 rfl rfl dX7_at_9 ?_
  refine lv_iload_n hx hb dX7_at_12 rfl (lv_at hl 1 rfl) ?_
  replace h := bnd h
  obtain ⟨v5, e5, h⟩ := h
  refine o_aald hx hb hi hw e5 dX7_at_13 ?_
  refine lv_iload_n hx hb dX7_at_14 rfl (lv_at hl 2 rfl) ?_
  replace h := bnd h
  obtain ⟨v6, e6, h⟩ := h
  refine o_iald hx hb hi hw e6 dX7_at_15 ?_
  cases h
  exact kr _ _ _ _ dX7_at_16 hw
theorem cc_X7_at {l : Launch} (hl0 : l.stackTraces = false) {G : gG} {adr : Nat → Nat} {sz : Nat} (hi : adi adr) {a0 : Int} {a1 : Int} {M : MI} {o9 : (Nat × MI) ⊕ (Int × MI)} (h : f_X7_at a0 a1 M = some o9) : yI l yX7_at cX7_at 3 (some .int) { frames := 8, cells := 2, slots := 12, locals := 115 } G adr [.ref (adr 0), .int (Int32.ofInt a0), .int (Int32.ofInt a1)] (tm M) sz 2 12 o9 := by
  refine yEnterX (by decide) (Nat.le_of_ble_eq_true rfl) ?_
  intro p e s m below meth c ls cx hnt hl hsz hw hY
  refine b_X7_at hl0 cx hnt hY hi ?_ h hl hw
  clear h
  rcases o9 with o9 | q9
  · trivial
  · dsimp only
    intro pc ls H locs hd hw
    refine vx_ret ?_
    refine W.widen (k := 2) (n := 12) (by decide) (by decide) ?_
    exact w_iret (post := fun (r9 : Int32) (u : Mem) => ∃ r M', Sum.inr q9 = (.inr (r, M') : (Nat × MI) ⊕ (Int × MI)) ∧ r9 = Int32.ofInt r ∧ u = tm M') (lf := fun u => (LL adr, wf G adr u)) cx.1 cx.2.1 cx.2.2.1 cx.2.2.2.2.2.2 (tm q9.2) hw ⟨q9.1, q9.2, rfl, rfl, rfl⟩ hd
