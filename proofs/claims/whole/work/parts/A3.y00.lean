theorem q_533 : Cond.methodLink RX7 89 yX7_requireNumber ∈ uU := uU_in (by decide +kernel) (by decide +kernel)
theorem q_534 : Cond.instanceMethod yX7_requireNumber ∈ uU := uU_in (by decide +kernel) (by decide +kernel)
theorem q_535 : Cond.selects yX7_requireNumber.cls yX7_requireNumber yX7_requireNumber ∈ uU := uU_in (by decide +kernel) (by decide +kernel)
theorem q_536 : Cond.initialized yX7_requireNumber.cls ∈ uU := uU_in (by decide +kernel) (by decide +kernel)
theorem q_537 : Cond.code yX7_requireNumber cX7_requireNumber 1 none ∈ uU := uU_in (by decide +kernel) (by decide +kernel)
theorem q_538 : Cond.fieldLink RX7 35 "LiftFactors" "result" "[J" ∈ uU := uU_in (by decide +kernel) (by decide +kernel)
def f_X7_poly (n : Nat) (M : MI) : Option ((Nat × MI) ⊕ (Int × MI)) :=
  Option.bind (f_X7_requireNumber M) fun v1 => match v1 with
  | .inl o => some (.inl o)
  | .inr M2 =>
  Option.bind (f_J7_fill_d0a16 n 12 (0) M2) fun v3 =>
  Option.bind (f_X7_keep n 12 v3) fun (v4, M5) =>
  some (.inr (v4, M5))
set_option maxRecDepth 100000 in
set_option maxHeartbeats 8000000 in
theorem b_X7_poly {p : Program} {l : Launch} (hl0 : l.stackTraces = false) {e : Env} {s : State} {m : MethodId} {args : Array Value} {below : List Frame} {meth : Method} {c : Code} {Qc : Array Value → State → Outcome → State → Prop} {G : gG} {A : Nat → Prop} {adr : Nat → Nat} (cx : cX p s m args meth c cX7_poly (some .int) 1 yX7_poly.cls) (hnt : ∀ x ∈ c.exceptionTable.toList, False) (hY : tY A s s.heap) (hi : adi adr) {n : Nat} {M : MI} {o9 : (Nat × MI) ⊕ (Int × MI)} 
    (kr : (match o9 with | .inl _ => True | .inr q9 => ∀ (pc : Nat) (ls : Array Slot) (H : Heap) (locs : List Loc), decode cX7_poly pc = .ok (.ireturn, 1) → wH G A s.heap s (LL adr) (wf G adr (tm q9.2)) H locs → W p l e { frames := 7, cells := 1, slots := 6, locals := 102 } s m args below meth c H locs 1 6 (vx_MQ below Qc (xX G A (LL adr) (fun E g => ∃ k M', o9 = .inl (k, M') ∧ E = eN k ∧ g = wf G adr (tm M'))) args s 1 6 A) (F0 m pc ls [.int (Int32.ofInt q9.1)])))
    (h : f_X7_poly n M = some o9)
    {ls : Array Slot} {H : Heap} {locs : List Loc} (hl : lv_has ls 1 [(0, .ref (adr 0))]) (hw : wH G A s.heap s (LL adr) (wf G adr (tm M)) H locs) : W p l e { frames := 7, cells := 1, slots := 6, locals := 102 } s m args below meth c H locs 0 0 (vx_MQ below Qc (xX G A (LL adr) (fun E g => ∃ k M', o9 = .inl (k, M') ∧ E = eN k ∧ g = wf G adr (tm M'))) args s 1 6 A) (F0 m 0 ls []) := by
  obtain ⟨hx, hb, -, hml, hown, hts, hlocks⟩ := id cx
  have hown : s.vm.findClass RX7 = some m.cls := hown
  unfold f_X7_poly at h
  refine lv_aload_n hx hb dX7_poly_0 rfl (lv_at hl 0 rfl) ?_
  replace h := bnd h
  obtain ⟨v1, e1, h⟩ := h
  refine y_callVv (k := 0) (c1 := 1) (s1 := 6) (As := []) (rest := []) cx.fix hi hY hw (cc_X7_requireNumber (l := l) (G := G) (sz := H.size) hl0 hi e1) (by decide) rfl rfl (w_cV 0 hts q_533 q_534 q_535 q_536 q_537 rfl rfl (by decide) (by decide)) hl.1 rfl (lv_room (Nat.le_of_ble_eq_true rfl)) dX7_poly_1 (by decide) rfl rfl (fun k9 M9 ce q9 H locs ho hw hce hcv hcl => ?_) (fun M2 H locs ho hw => ?_)
  · subst ho
    cases h
    exact x_out hnt hlocks hw ⟨k9, M9, rfl, rfl, rfl⟩ hce hcv hcl (by decide) (by decide)
  subst ho
  (try dsimp only at h)
  refine lv_aload_n hx hb dX7_poly_4 rfl (lv_at hl 0 rfl) ?_
  refine m_get (k := 0) (C := RX7) (T := TX7) (N := 15) (ref := "LiftFactors") (v := .ref (adr 12)) hx hb hi hts inX7_u hown hw (by decide) rfl 7 (by decide) q_538 rfl rfl dX7_poly_5 ?_
  refine lv_lconst (v := Int64.ofInt (0)) hx hb dX7_poly_8 (by decide) ?_
  replace h := bnd h
  obtain ⟨v3, e3, h⟩ := h
  refine n_callSv (As := [.ref (adr 12), .long (Int64.ofInt (0))]) (rest := []) cx.fix hw (cc_J7_fill_d0a16 (l := l) (G := G) (sz := H.size) hi e3) (w_cS 2 hts q_481 q_265 q_266 q_267 rfl rfl (by decide) (by decide)) (by decide) hl.1 rfl (lv_room (Nat.le_of_ble_eq_true rfl)) dX7_poly_9 (fun H locs hw => ?_)
  refine lv_aload_n hx hb dX7_poly_12 rfl (lv_at hl 0 rfl) ?_
  refine lv_aload_n hx hb dX7_poly_13 rfl (lv_at hl 0 rfl) ?_
  refine m_get (k := 0) (C := RX7) (T := TX7) (N := 15) (ref := "LiftFactors") (v := .ref (adr 12)) hx hb hi hts inX7_u hown hw (by decide) rfl 7 (by decide) q_538 rfl rfl dX7_poly_14 ?_
  replace h := bnd h
  obtain ⟨⟨v4, M5⟩, e4, h⟩ := h
  refine n_callVi (k := 0) (As := [.ref (adr 12)]) (rest := []) cx.fix hi hw (cc_X7_keep (l := l) (G := G) (sz := H.size) hi e4) (by decide) rfl rfl (w_cV 1 hts q_473 q_474 q_475 q_476 q_477 rfl rfl (by decide) (by decide)) (by decide) hl.1 rfl (lv_room (Nat.le_of_ble_eq_true rfl)) dX7_poly_17 (fun H locs hw => ?_)
  cases h
  exact kr _ _ _ _ dX7_poly_20 hw
theorem cc_X7_poly {l : Launch} (hl0 : l.stackTraces = false) {G : gG} {adr : Nat → Nat} {sz : Nat} (hi : adi adr) {n : Nat} {M : MI} {o9 : (Nat × MI) ⊕ (Int × MI)} (h : f_X7_poly n M = some o9) : yI l yX7_poly cX7_poly 1 (some .int) { frames := 7, cells := 1, slots := 6, locals := 102 } G adr [.ref (adr 0)] (tm M) sz 1 6 o9 := by
  refine yEnterX (by decide) (Nat.le_of_ble_eq_true rfl) ?_
  intro p e s m below meth c ls cx hnt hl hsz hw hY
  refine b_X7_poly hl0 cx hnt hY hi ?_ h hl hw
  clear h
  rcases o9 with o9 | q9
  · trivial
  · dsimp only
    intro pc ls H locs hd hw
    refine vx_ret ?_
    refine W.widen (k := 1) (n := 6) (by decide) (by decide) ?_
    exact w_iret (post := fun (r9 : Int32) (u : Mem) => ∃ r M', Sum.inr q9 = (.inr (r, M') : (Nat × MI) ⊕ (Int × MI)) ∧ r9 = Int32.ofInt r ∧ u = tm M') (lf := fun u => (LL adr, wf G adr u)) cx.1 cx.2.1 cx.2.2.1 cx.2.2.2.2.2.2 (tm q9.2) hw ⟨q9.1, q9.2, rfl, rfl, rfl⟩ hd
