def f_X7_requirePolynomial (a0 : Int) (M : MI) : Option ((Nat × MI) ⊕ MI) :=
  Option.bind (gI a0 0) fun _ =>
  if a0 < 0 then
    some (.inl (1, M))
  else
    Option.bind (gI a0 (80)) fun _ =>
    if a0 < (80) then
      some (.inr M)
    else
      some (.inl (1, M))
set_option maxRecDepth 100000 in
set_option maxHeartbeats 8000000 in
theorem b_X7_requirePolynomial {p : Program} {l : Launch} (hl0 : l.stackTraces = false) {e : Env} {s : State} {m : MethodId} {args : Array Value} {below : List Frame} {meth : Method} {c : Code} {Qc : Array Value → State → Outcome → State → Prop} {G : gG} {A : Nat → Prop} {adr : Nat → Nat} (cx : cX p s m args meth c cX7_requirePolynomial none 1 yX7_requirePolynomial.cls) (hnt : ∀ x ∈ c.exceptionTable.toList, False) (hY : tY A s s.heap) (hi : adi adr) {a0 : Int} {M : MI} {o9 : (Nat × MI) ⊕ MI} 
    (kr : (match o9 with | .inl _ => True | .inr q9 => ∀ (pc : Nat) (ls : Array Slot) (H : Heap) (locs : List Loc), decode cX7_requirePolynomial pc = .ok (.return_, 1) → wH G A s.heap s (LL adr) (wf G adr (tm q9)) H locs → W p l e { frames := 7, cells := 1, slots := 6, locals := 95 } s m args below meth c H locs 0 0 (vx_MQ below Qc (xX G A (LL adr) (fun E g => ∃ k M', o9 = .inl (k, M') ∧ E = eN k ∧ g = wf G adr (tm M'))) args s 1 6 A) (F0 m pc ls [])))
    (h : f_X7_requirePolynomial a0 M = some o9)
    {ls : Array Slot} {H : Heap} {locs : List Loc} (hl : lv_has ls 1 [(0, .int (Int32.ofInt a0))]) (hw : wH G A s.heap s (LL adr) (wf G adr (tm M)) H locs) : W p l e { frames := 7, cells := 1, slots := 6, locals := 95 } s m args below meth c H locs 0 0 (vx_MQ below Qc (xX G A (LL adr) (fun E g => ∃ k M', o9 = .inl (k, M') ∧ E = eN k ∧ g = wf G adr (tm M'))) args s 1 6 A) (F0 m 0 ls []) := by
  obtain ⟨hx, hb, -, hml, hown, hts, hlocks⟩ := id cx
  have hown : s.vm.findClass RX7 = some m.cls := hown
  unfold f_X7_requirePolynomial at h
  refine lv_iload_n hx hb dX7_requirePolynomial_0 rfl (lv_at hl 0 rfl) ?_
  replace h := bnd h
  obtain ⟨_, hg, h⟩ := h
  refine o_if_lt (tgt := 10) hx hb hg dX7_requirePolynomial_1 (by decide) (fun hc => ?_) (fun hc => ?_)
  · replace h := ite_t hc h
    cases h
    exact w_throwS (cls := nAI) (text := "no such polynomial") hx hb hl0 hown hts fit_AI fitn_3 uw_classLink_RX7_230_nAI uw_initialized_nAI (by decide +kernel) at_AI an_AI ot_AI hY.1 hw (hl.1.trans hml.symm) dX7_requirePolynomial_10 dX7_requirePolynomial_13 dX7_requirePolynomial_14 dX7_requirePolynomial_16 dX7_requirePolynomial_19 hnt (by decide) (by decide) (by decide) (by decide) hlocks ⟨1, _, rfl, rfl, rfl⟩ (by decide) (by decide)
  · replace h := ite_f hc h
    refine lv_iload_n hx hb dX7_requirePolynomial_4 rfl (lv_at hl 0 rfl) ?_
    refine lv_bipush (v := Int32.ofInt (80)) hx hb dX7_requirePolynomial_5 rfl ?_
    replace h := bnd h
    obtain ⟨_, hg, h⟩ := h
    refine o_icmp_lt (tgt := 20) hx hb hg dX7_requirePolynomial_7 (by decide) (fun hc => ?_) (fun hc => ?_)
    · replace h := ite_t hc h
      cases h
      exact kr _ _ _ _ dX7_requirePolynomial_20 hw
    · replace h := ite_f hc h
      cases h
      exact w_throwS (cls := nAI) (text := "no such polynomial") hx hb hl0 hown hts fit_AI fitn_3 uw_classLink_RX7_230_nAI uw_initialized_nAI (by decide +kernel) at_AI an_AI ot_AI hY.1 hw (hl.1.trans hml.symm) dX7_requirePolynomial_10 dX7_requirePolynomial_13 dX7_requirePolynomial_14 dX7_requirePolynomial_16 dX7_requirePolynomial_19 hnt (by decide) (by decide) (by decide) (by decide) hlocks ⟨1, _, rfl, rfl, rfl⟩ (by decide) (by decide)
theorem cc_X7_requirePolynomial {l : Launch} (hl0 : l.stackTraces = false) {G : gG} {adr : Nat → Nat} {sz : Nat} (hi : adi adr) {a0 : Int} {M : MI} {o9 : (Nat × MI) ⊕ MI} (h : f_X7_requirePolynomial a0 M = some o9) : yV l yX7_requirePolynomial cX7_requirePolynomial 1 none { frames := 7, cells := 1, slots := 6, locals := 95 } G adr [.int (Int32.ofInt a0)] (tm M) sz 1 6 o9 := by
  refine yEnterX (by decide) (Nat.le_of_ble_eq_true rfl) ?_
  intro p e s m below meth c ls cx hnt hl hsz hw hY
  refine b_X7_requirePolynomial hl0 cx hnt hY hi ?_ h hl hw
  clear h
  rcases o9 with o9 | q9
  · trivial
  · dsimp only
    intro pc ls H locs hd hw
    refine vx_ret ?_
    refine W.widen (k := 1) (n := 6) (by decide) (by decide) ?_
    exact w_vret (post := fun (u : Mem) => ∃ M', Sum.inr q9 = (.inr M' : (Nat × MI) ⊕ MI) ∧ u = tm M') (lf := fun u => (LL adr, wf G adr u)) cx.1 cx.2.1 cx.2.2.1 cx.2.2.2.2.2.2 (tm q9) hw ⟨q9, rfl, rfl⟩ hd
def f_X7_requirePower (a0 : Int) (M : MI) : Option ((Nat × MI) ⊕ MI) :=
  Option.bind (gI a0 0) fun _ =>
  if a0 < 0 then
    some (.inl (1, M))
  else
    Option.bind (gI a0 (10)) fun _ =>
    if a0 ≤ (10) then
      some (.inr M)
    else
      some (.inl (1, M))
set_option maxRecDepth 100000 in
set_option maxHeartbeats 8000000 in
theorem b_X7_requirePower {p : Program} {l : Launch} (hl0 : l.stackTraces = false) {e : Env} {s : State} {m : MethodId} {args : Array Value} {below : List Frame} {meth : Method} {c : Code} {Qc : Array Value → State → Outcome → State → Prop} {G : gG} {A : Nat → Prop} {adr : Nat → Nat} (cx : cX p s m args meth c cX7_requirePower none 1 yX7_requirePower.cls) (hnt : ∀ x ∈ c.exceptionTable.toList, False) (hY : tY A s s.heap) (hi : adi adr) {a0 : Int} {M : MI} {o9 : (Nat × MI) ⊕ MI} 
    (kr : (match o9 with | .inl _ => True | .inr q9 => ∀ (pc : Nat) (ls : Array Slot) (H : Heap) (locs : List Loc), decode cX7_requirePower pc = .ok (.return_, 1) → wH G A s.heap s (LL adr) (wf G adr (tm q9)) H locs → W p l e { frames := 7, cells := 1, slots := 6, locals := 95 } s m args below meth c H locs 0 0 (vx_MQ below Qc (xX G A (LL adr) (fun E g => ∃ k M', o9 = .inl (k, M') ∧ E = eN k ∧ g = wf G adr (tm M'))) args s 1 6 A) (F0 m pc ls [])))
    (h : f_X7_requirePower a0 M = some o9)
    {ls : Array Slot} {H : Heap} {locs : List Loc} (hl : lv_has ls 1 [(0, .int (Int32.ofInt a0))]) (hw : wH G A s.heap s (LL adr) (wf G adr (tm M)) H locs) : W p l e { frames := 7, cells := 1, slots := 6, locals := 95 } s m args below meth c H locs 0 0 (vx_MQ below Qc (xX G A (LL adr) (fun E g => ∃ k M', o9 = .inl (k, M') ∧ E = eN k ∧ g = wf G adr (tm M'))) args s 1 6 A) (F0 m 0 ls []) := by
  obtain ⟨hx, hb, -, hml, hown, hts, hlocks⟩ := id cx
  have hown : s.vm.findClass RX7 = some m.cls := hown
  unfold f_X7_requirePower at h
  refine lv_iload_n hx hb dX7_requirePower_0 rfl (lv_at hl 0 rfl) ?_
  replace h := bnd h
  obtain ⟨_, hg, h⟩ := h
  refine o_if_lt (tgt := 10) hx hb hg dX7_requirePower_1 (by decide) (fun hc => ?_) (fun hc => ?_)
  · replace h := ite_t hc h
    cases h
    exact w_throwS (cls := nAI) (text := "no such power") hx hb hl0 hown hts fit_AI fitn_3 uw_classLink_RX7_230_nAI uw_initialized_nAI (by decide +kernel) at_AI an_AI ot_AI hY.1 hw (hl.1.trans hml.symm) dX7_requirePower_10 dX7_requirePower_13 dX7_requirePower_14 dX7_requirePower_16 dX7_requirePower_19 hnt (by decide) (by decide) (by decide) (by decide) hlocks ⟨1, _, rfl, rfl, rfl⟩ (by decide) (by decide)
  · replace h := ite_f hc h
    refine lv_iload_n hx hb dX7_requirePower_4 rfl (lv_at hl 0 rfl) ?_
    refine lv_bipush (v := Int32.ofInt (10)) hx hb dX7_requirePower_5 rfl ?_
    replace h := bnd h
    obtain ⟨_, hg, h⟩ := h
    refine o_icmp_le (tgt := 20) hx hb hg dX7_requirePower_7 (by decide) (fun hc => ?_) (fun hc => ?_)
    · replace h := ite_t hc h
      cases h
      exact kr _ _ _ _ dX7_requirePower_20 hw
    · replace h := ite_f hc h
      cases h
      exact w_throwS (cls := nAI) (text := "no such power") hx hb hl0 hown hts fit_AI fitn_3 uw_classLink_RX7_230_nAI uw_initialized_nAI (by decide +kernel) at_AI an_AI ot_AI hY.1 hw (hl.1.trans hml.symm) dX7_requirePower_10 dX7_requirePower_13 dX7_requirePower_14 dX7_requirePower_16 dX7_requirePower_19 hnt (by decide) (by decide) (by decide) (by decide) hlocks ⟨1, _, rfl, rfl, rfl⟩ (by decide) (by decide)
theorem cc_X7_requirePower {l : Launch} (hl0 : l.stackTraces = false) {G : gG} {adr : Nat → Nat} {sz : Nat} (hi : adi adr) {a0 : Int} {M : MI} {o9 : (Nat × MI) ⊕ MI} (h : f_X7_requirePower a0 M = some o9) : yV l yX7_requirePower cX7_requirePower 1 none { frames := 7, cells := 1, slots := 6, locals := 95 } G adr [.int (Int32.ofInt a0)] (tm M) sz 1 6 o9 := by
  refine yEnterX (by decide) (Nat.le_of_ble_eq_true rfl) ?_
  intro p e s m below meth c ls cx hnt hl hsz hw hY
  refine b_X7_requirePower hl0 cx hnt hY hi ?_ h hl hw
  clear h
  rcases o9 with o9 | q9
  · trivial
  · dsimp only
    intro pc ls H locs hd hw
    refine vx_ret ?_
    refine W.widen (k := 1) (n := 6) (by decide) (by decide) ?_
    exact w_vret (post := fun (u : Mem) => ∃ M', Sum.inr q9 = (.inr M' : (Nat × MI) ⊕ MI) ∧ u = tm M') (lf := fun u => (LL adr, wf G adr u)) cx.1 cx.2.1 cx.2.2.1 cx.2.2.2.2.2.2 (tm q9) hw ⟨q9, rfl, rfl⟩ hd
def f_X7_requireFactor (a0 : Int) (M : MI) : Option ((Nat × MI) ⊕ MI) :=
  Option.bind (gI a0 0) fun _ =>
  if a0 < 0 then
    some (.inl (1, M))
  else
    Option.bind (gI a0 (M.2 0 4)) fun _ =>
    if a0 < (M.2 0 4) then
      some (.inr M)
    else
      some (.inl (1, M))
set_option maxRecDepth 100000 in
set_option maxHeartbeats 8000000 in
theorem b_X7_requireFactor {p : Program} {l : Launch} (hl0 : l.stackTraces = false) {e : Env} {s : State} {m : MethodId} {args : Array Value} {below : List Frame} {meth : Method} {c : Code} {Qc : Array Value → State → Outcome → State → Prop} {G : gG} {A : Nat → Prop} {adr : Nat → Nat} (cx : cX p s m args meth c cX7_requireFactor none 2 yX7_requireFactor.cls) (hnt : ∀ x ∈ c.exceptionTable.toList, False) (hY : tY A s s.heap) (hi : adi adr) {a0 : Int} {M : MI} {o9 : (Nat × MI) ⊕ MI} 
    (kr : (match o9 with | .inl _ => True | .inr q9 => ∀ (pc : Nat) (ls : Array Slot) (H : Heap) (locs : List Loc), decode cX7_requireFactor pc = .ok (.return_, 1) → wH G A s.heap s (LL adr) (wf G adr (tm q9)) H locs → W p l e { frames := 7, cells := 1, slots := 6, locals := 95 } s m args below meth c H locs 0 0 (vx_MQ below Qc (xX G A (LL adr) (fun E g => ∃ k M', o9 = .inl (k, M') ∧ E = eN k ∧ g = wf G adr (tm M'))) args s 1 6 A) (F0 m pc ls [])))
    (h : f_X7_requireFactor a0 M = some o9)
    {ls : Array Slot} {H : Heap} {locs : List Loc} (hl : lv_has ls 2 [(0, .ref (adr 0)), (1, .int (Int32.ofInt a0))]) (hw : wH G A s.heap s (LL adr) (wf G adr (tm M)) H locs) : W p l e { frames := 7, cells := 1, slots := 6, locals := 95 } s m args below meth c H locs 0 0 (vx_MQ below Qc (xX G A (LL adr) (fun E g => ∃ k M', o9 = .inl (k, M') ∧ E = eN k ∧ g = wf G adr (tm M'))) args s 1 6 A) (F0 m 0 ls []) := by
  obtain ⟨hx, hb, -, hml, hown, hts, hlocks⟩ := id cx
  have hown : s.vm.findClass RX7 = some m.cls := hown
  unfold f_X7_requireFactor at h
  refine lv_iload_n hx hb dX7_requireFactor_0 rfl (lv_at hl 1 rfl) ?_
  replace h := bnd h
  obtain ⟨_, hg, h⟩ := h
  refine o_if_lt (tgt := 12) hx hb hg dX7_requireFactor_1 (by decide) (fun hc => ?_) (fun hc => ?_)
  · replace h := ite_t hc h
    cases h
    exact w_throwS (cls := nAI) (text := "no such factor") hx hb hl0 hown hts fit_AI fitn_3 uw_classLink_RX7_230_nAI uw_initialized_nAI (by decide +kernel) at_AI an_AI ot_AI hY.1 hw (hl.1.trans hml.symm) dX7_requireFactor_12 dX7_requireFactor_15 dX7_requireFactor_16 dX7_requireFactor_18 dX7_requireFactor_21 hnt (by decide) (by decide) (by decide) (by decide) hlocks ⟨1, _, rfl, rfl, rfl⟩ (by decide) (by decide)
  · replace h := ite_f hc h
    refine lv_iload_n hx hb dX7_requireFactor_4 rfl (lv_at hl 1 rfl) ?_
    refine lv_aload_n hx hb dX7_requireFactor_5 rfl (lv_at hl 0 rfl) ?_
    refine m_get (k := 0) (C := RX7) (T := TX7) (N := 15) (ref := "LiftFactors") (v := .int (Int32.ofInt (M.2 0 4))) hx hb hi hts inX7_u hown hw (by decide) rfl 4 (by decide) q_470 rfl rfl dX7_requireFactor_6 ?_
    replace h := bnd h
    obtain ⟨_, hg, h⟩ := h
    refine o_icmp_lt (tgt := 22) hx hb hg dX7_requireFactor_9 (by decide) (fun hc => ?_) (fun hc => ?_)
    · replace h := ite_t hc h
      cases h
      exact kr _ _ _ _ dX7_requireFactor_22 hw
    · replace h := ite_f hc h
      cases h
      exact w_throwS (cls := nAI) (text := "no such factor") hx hb hl0 hown hts fit_AI fitn_3 uw_classLink_RX7_230_nAI uw_initialized_nAI (by decide +kernel) at_AI an_AI ot_AI hY.1 hw (hl.1.trans hml.symm) dX7_requireFactor_12 dX7_requireFactor_15 dX7_requireFactor_16 dX7_requireFactor_18 dX7_requireFactor_21 hnt (by decide) (by decide) (by decide) (by decide) hlocks ⟨1, _, rfl, rfl, rfl⟩ (by decide) (by decide)
theorem cc_X7_requireFactor {l : Launch} (hl0 : l.stackTraces = false) {G : gG} {adr : Nat → Nat} {sz : Nat} (hi : adi adr) {a0 : Int} {M : MI} {o9 : (Nat × MI) ⊕ MI} (h : f_X7_requireFactor a0 M = some o9) : yV l yX7_requireFactor cX7_requireFactor 2 none { frames := 7, cells := 1, slots := 6, locals := 95 } G adr [.ref (adr 0), .int (Int32.ofInt a0)] (tm M) sz 1 6 o9 := by
  refine yEnterX (by decide) (Nat.le_of_ble_eq_true rfl) ?_
  intro p e s m below meth c ls cx hnt hl hsz hw hY
  refine b_X7_requireFactor hl0 cx hnt hY hi ?_ h hl hw
  clear h
  rcases o9 with o9 | q9
  · trivial
  · dsimp only
    intro pc ls H locs hd hw
    refine vx_ret ?_
    refine W.widen (k := 1) (n := 6) (by decide) (by decide) ?_
    exact w_vret (post := fun (u : Mem) => ∃ M', Sum.inr q9 = (.inr M' : (Nat × MI) ⊕ MI) ∧ u = tm M') (lf := fun u => (LL adr, wf G adr u)) cx.1 cx.2.1 cx.2.2.1 cx.2.2.2.2.2.2 (tm q9) hw ⟨q9, rfl, rfl⟩ hd
def f_X7_requireNumber (M : MI) : Option ((Nat × MI) ⊕ MI) :=
  Option.bind (gI (M.2 0 1) (80)) fun _ =>
  if (M.2 0 1) < (80) then
    some (.inr M)
  else
    some (.inl (2, M))
set_option maxRecDepth 100000 in
set_option maxHeartbeats 8000000 in
theorem b_X7_requireNumber {p : Program} {l : Launch} (hl0 : l.stackTraces = false) {e : Env} {s : State} {m : MethodId} {args : Array Value} {below : List Frame} {meth : Method} {c : Code} {Qc : Array Value → State → Outcome → State → Prop} {G : gG} {A : Nat → Prop} {adr : Nat → Nat} (cx : cX p s m args meth c cX7_requireNumber none 1 yX7_requireNumber.cls) (hnt : ∀ x ∈ c.exceptionTable.toList, False) (hY : tY A s s.heap) (hi : adi adr) {M : MI} {o9 : (Nat × MI) ⊕ MI} 
    (kr : (match o9 with | .inl _ => True | .inr q9 => ∀ (pc : Nat) (ls : Array Slot) (H : Heap) (locs : List Loc), decode cX7_requireNumber pc = .ok (.return_, 1) → wH G A s.heap s (LL adr) (wf G adr (tm q9)) H locs → W p l e { frames := 6, cells := 1, slots := 6, locals := 82 } s m args below meth c H locs 0 0 (vx_MQ below Qc (xX G A (LL adr) (fun E g => ∃ k M', o9 = .inl (k, M') ∧ E = eN k ∧ g = wf G adr (tm M'))) args s 1 6 A) (F0 m pc ls [])))
    (h : f_X7_requireNumber M = some o9)
    {ls : Array Slot} {H : Heap} {locs : List Loc} (hl : lv_has ls 1 [(0, .ref (adr 0))]) (hw : wH G A s.heap s (LL adr) (wf G adr (tm M)) H locs) : W p l e { frames := 6, cells := 1, slots := 6, locals := 82 } s m args below meth c H locs 0 0 (vx_MQ below Qc (xX G A (LL adr) (fun E g => ∃ k M', o9 = .inl (k, M') ∧ E = eN k ∧ g = wf G adr (tm M'))) args s 1 6 A) (F0 m 0 ls []) := by
  obtain ⟨hx, hb, -, hml, hown, hts, hlocks⟩ := id cx
  have hown : s.vm.findClass RX7 = some m.cls := hown
  unfold f_X7_requireNumber at h
  refine lv_aload_n hx hb dX7_requireNumber_0 rfl (lv_at hl 0 rfl) ?_
  refine m_get (k := 0) (C := RX7) (T := TX7) (N := 15) (ref := "LiftFactors") (v := .int (Int32.ofInt (M.2 0 1))) hx hb hi hts inX7_u hown hw (by decide) rfl 1 (by decide) q_467 rfl rfl dX7_requireNumber_1 ?_
  refine lv_bipush (v := Int32.ofInt (80)) hx hb dX7_requireNumber_4 rfl ?_
  replace h := bnd h
  obtain ⟨_, hg, h⟩ := h
  refine o_icmp_lt (tgt := 19) hx hb hg dX7_requireNumber_6 (by decide) (fun hc => ?_) (fun hc => ?_)
  · replace h := ite_t hc h
    cases h
    exact kr _ _ _ _ dX7_requireNumber_19 hw
  · replace h := ite_f hc h
    cases h
    exact w_throwS (cls := nIS) (text := "no number is left") hx hb hl0 hown hts fit_IS fitn_2 uw_classLink_RX7_151_nIS uw_initialized_nIS (by decide +kernel) at_IS an_IS ot_IS hY.1 hw (hl.1.trans hml.symm) dX7_requireNumber_9 dX7_requireNumber_12 dX7_requireNumber_13 dX7_requireNumber_15 dX7_requireNumber_18 hnt (by decide) (by decide) (by decide) (by decide) hlocks ⟨2, _, rfl, rfl, rfl⟩ (by decide) (by decide)
theorem cc_X7_requireNumber {l : Launch} (hl0 : l.stackTraces = false) {G : gG} {adr : Nat → Nat} {sz : Nat} (hi : adi adr) {M : MI} {o9 : (Nat × MI) ⊕ MI} (h : f_X7_requireNumber M = some o9) : yV l yX7_requireNumber cX7_requireNumber 1 none { frames := 6, cells := 1, slots := 6, locals := 82 } G adr [.ref (adr 0)] (tm M) sz 1 6 o9 := by
  refine yEnterX (by decide) (Nat.le_of_ble_eq_true rfl) ?_
  intro p e s m below meth c ls cx hnt hl hsz hw hY
  refine b_X7_requireNumber hl0 cx hnt hY hi ?_ h hl hw
  clear h
  rcases o9 with o9 | q9
  · trivial
  · dsimp only
    intro pc ls H locs hd hw
    refine vx_ret ?_
    refine W.widen (k := 1) (n := 6) (by decide) (by decide) ?_
    exact w_vret (post := fun (u : Mem) => ∃ M', Sum.inr q9 = (.inr M' : (Nat × MI) ⊕ MI) ∧ u = tm M') (lf := fun u => (LL adr, wf G adr u)) cx.1 cx.2.1 cx.2.2.1 cx.2.2.2.2.2.2 (tm q9) hw ⟨q9, rfl, rfl⟩ hd
