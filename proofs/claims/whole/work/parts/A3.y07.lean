theorem q_580 : Cond.methodLink RX7 173 yX7_requireFactor ∈ uU := uU_in (by decide +kernel) (by decide +kernel)
theorem q_581 : Cond.instanceMethod yX7_requireFactor ∈ uU := uU_in (by decide +kernel) (by decide +kernel)
theorem q_582 : Cond.selects yX7_requireFactor.cls yX7_requireFactor yX7_requireFactor ∈ uU := uU_in (by decide +kernel) (by decide +kernel)
theorem q_583 : Cond.initialized yX7_requireFactor.cls ∈ uU := uU_in (by decide +kernel) (by decide +kernel)
theorem q_584 : Cond.code yX7_requireFactor cX7_requireFactor 2 none ∈ uU := uU_in (by decide +kernel) (by decide +kernel)
def f_X7_factor (a0 : Int) (M : MI) : Option ((Nat × MI) ⊕ (Int × MI)) :=
  Option.bind (f_X7_requireFactor a0 M) fun v1 => match v1 with
  | .inl o => some (.inl o)
  | .inr M2 =>
  Option.bind (odI M2 8 a0) fun v3 =>
  some (.inr (v3, M2))
set_option maxRecDepth 100000 in
set_option maxHeartbeats 8000000 in
theorem b_X7_factor {p : Program} {l : Launch} (hl0 : l.stackTraces = false) {e : Env} {s : State} {m : MethodId} {args : Array Value} {below : List Frame} {meth : Method} {c : Code} {Qc : Array Value → State → Outcome → State → Prop} {G : gG} {A : Nat → Prop} {adr : Nat → Nat} (cx : cX p s m args meth c cX7_factor (some .int) 2 yX7_factor.cls) (hnt : ∀ x ∈ c.exceptionTable.toList, False) (hY : tY A s s.heap) (hi : adi adr) {a0 : Int} {M : MI} {o9 : (Nat × MI) ⊕ (Int × MI)} 
    (kr : (match o9 with | .inl _ => True | .inr q9 => ∀ (pc : Nat) (ls : Array Slot) (H : Heap) (locs : List Loc), decode cX7_factor pc = .ok (.ireturn, 1) → wH G A s.heap s (LL adr) (wf G adr (tm q9.2)) H locs → W p l e { frames := 8, cells := 1, slots := 6, locals := 116 } s m args below meth c H locs 1 6 (vx_MQ below Qc (xX G A (LL adr) (fun E g => ∃ k M', o9 = .inl (k, M') ∧ E = eN k ∧ g = wf G adr (tm M'))) args s 1 6 A) (F0 m pc ls [.int (Int32.ofInt q9.1)])))
    (h : f_X7_factor a0 M = some o9)
    {ls : Array Slot} {H : Heap} {locs : List Loc} (hl : lv_has ls 2 [(0, .ref (adr 0)), (1, .int (Int32.ofInt a0))]) (hw : wH G A s.heap s (LL adr) (wf G adr (tm M)) H locs) : W p l e { frames := 8, cells := 1, slots := 6, locals := 116 } s m args below meth c H locs 0 0 (vx_MQ below Qc (xX G A (LL adr) (fun E g => ∃ k M', o9 = .inl (k, M') ∧ E = eN k ∧ g = wf G adr (tm M'))) args s 1 6 A) (F0 m 0 ls []) := by
  obtain ⟨hx, hb, -, hml, hown, hts, hlocks⟩ := id cx
  have hown : s.vm.findClass RX7 = some m.cls := hown
  unfold f_X7_factor at h
  refine lv_aload_n hx hb dX7_factor_0 rfl (lv_at hl 0 rfl) ?_
  refine lv_iload_n hx hb dX7_factor_1 rfl (lv_at hl 1 rfl) ?_
  replace h := bnd h
  obtain ⟨v1, e1, h⟩ := h
  refine y_callVv (k := 0) (c1 := 1) (s1 := 6) (As := [.int (Int32.ofInt a0)]) (rest := []) cx.fix hi hY hw (cc_X7_requireFactor (l := l) (G := G) (sz := H.size) hl0 hi e1) (by decide) rfl rfl (w_cV 1 hts q_580 q_581 q_582 q_583 q_584 rfl rfl (by decide) (by decide)) hl.1 rfl (lv_room (Nat.le_of_ble_eq_true rfl)) dX7_factor_2 (by decide) rfl rfl (fun k9 M9 ce q9 H locs ho hw hce hcv hcl => ?_) (fun M2 H locs ho hw => ?_)
  · subst ho
    cases h
    exact x_out hnt hlocks hw ⟨k9, M9, rfl, rfl, rfl⟩ hce hcv hcl (by decide) (by decide)
  subst ho
  (try dsimp only at h)
  refine lv_aload_n hx hb dX7_factor_5 rfl (lv_at hl 0 rfl) ?_
  refine m_get (k := 0) (C := RX7) (T := TX7) (N := 15) (ref := "LiftFactors") (v := .ref (adr 8)) hx hb hi hts inX7_u hown hw (by decide) rfl 2 (by decide) q_471 rfl rfl dX7_factor_6 ?_
  refine lv_iload_n hx hb dX7_factor_9 rfl (lv_at hl 1 rfl) ?_
  replace h := bnd h
  obtain ⟨v3, e3, h⟩ := h
  refine o_iald hx hb hi hw e3 dX7_factor_10 ?_
  cases h
  exact kr _ _ _ _ dX7_factor_11 hw
theorem cc_X7_factor {l : Launch} (hl0 : l.stackTraces = false) {G : gG} {adr : Nat → Nat} {sz : Nat} (hi : adi adr) {a0 : Int} {M : MI} {o9 : (Nat × MI) ⊕ (Int × MI)} (h : f_X7_factor a0 M = some o9) : yI l yX7_factor cX7_factor 2 (some .int) { frames := 8, cells := 1, slots := 6, locals := 116 } G adr [.ref (adr 0), .int (Int32.ofInt a0)] (tm M) sz 1 6 o9 := by
  refine yEnterX (by decide) (Nat.le_of_ble_eq_true rfl) ?_
  intro p e s m below meth c ls cx hnt hl hsz hw hY
  refine b_X7_factor hl0 cx hnt hY hi ?_ h hl hw
  clear h
  rcases o9 with o9 | q9
  · trivial
  · dsimp only
    intro pc ls H locs hd hw
    refine vx_ret ?_
    refine W.widen (k := 1) (n := 6) (by decide) (by decide) ?_
    exact w_iret (post := fun (r9 : Int32) (u : Mem) => ∃ r M', Sum.inr q9 = (.inr (r, M') : (Nat × MI) ⊕ (Int × MI)) ∧ r9 = Int32.ofInt r ∧ u = tm M') (lf := fun u => (LL adr, wf G adr u)) cx.1 cx.2.1 cx.2.2.1 cx.2.2.2.2.2.2 (tm q9.2) hw ⟨q9.1, q9.2, rfl, rfl, rfl⟩ hd
