theorem q_567 : Cond.fieldLink RX7 60 "LiftFactors" "common" "LLiftFactors$CommonDivisor;" ∈ uU := uU_in (by decide +kernel) (by decide +kernel)
theorem q_568 : Cond.methodLink RX7 147 yX0_find ∈ uU := uU_in (by decide +kernel) (by decide +kernel)
def f_X7_gcd (n : Nat) (a0 : Int) (a1 : Int) (M : MI) : Option ((Nat × MI) ⊕ (Int × MI)) :=
  Option.bind (f_X7_requirePolynomial a0 M) fun v1 => match v1 with
  | .inl o => some (.inl o)
  | .inr M2 =>
  Option.bind (f_X7_requirePolynomial a1 M2) fun v3 => match v3 with
  | .inl o => some (.inl o)
  | .inr M4 =>
  Option.bind (f_X7_requireNumber M4) fun v5 => match v5 with
  | .inl o => some (.inl o)
  | .inr M6 =>
  Option.bind (f_X7_load n a0 10 M6) fun v7 =>
  Option.bind (f_X7_load n a1 11 v7) fun v8 =>
  Option.bind (f_X0_find n 10 11 12 v8) fun v9 =>
  Option.bind (f_X7_isTooGreat n 12 v9) fun v10 =>
  Option.bind (gI v10 0) fun _ =>
  if v10 = 0 then
    Option.bind (f_X7_keep n 12 v9) fun (v11, M12) =>
    some (.inr (v11, M12))
  else
    some (.inr ((-1), v9))
set_option maxRecDepth 100000 in
set_option maxHeartbeats 8000000 in
theorem b_X7_gcd {p : Program} {l : Launch} (hl0 : l.stackTraces = false) {e : Env} {s : State} {m : MethodId} {args : Array Value} {below : List Frame} {meth : Method} {c : Code} {Qc : Array Value → State → Outcome → State → Prop} {G : gG} {A : Nat → Prop} {adr : Nat → Nat} (cx : cX p s m args meth c cX7_gcd (some .int) 3 yX7_gcd.cls) (hnt : ∀ x ∈ c.exceptionTable.toList, False) (hY : tY A s s.heap) (hi : adi adr) {n : Nat} {a0 : Int} {a1 : Int} {M : MI} {o9 : (Nat × MI) ⊕ (Int × MI)} 
    (kr : (match o9 with | .inl _ => True | .inr q9 => ∀ (pc : Nat) (ls : Array Slot) (H : Heap) (locs : List Loc), decode cX7_gcd pc = .ok (.ireturn, 1) → wH G A s.heap s (LL adr) (wf G adr (tm q9.2)) H locs → W p l e { frames := 8, cells := 3, slots := 18, locals := 139 } s m args below meth c H locs 3 18 (vx_MQ below Qc (xX G A (LL adr) (fun E g => ∃ k M', o9 = .inl (k, M') ∧ E = eN k ∧ g = wf G adr (tm M'))) args s 3 18 A) (F0 m pc ls [.int (Int32.ofInt q9.1)])))
    (h : f_X7_gcd n a0 a1 M = some o9)
    {ls : Array Slot} {H : Heap} {locs : List Loc} (hl : lv_has ls 3 [(0, .ref (adr 0)), (1, .int (Int32.ofInt a0)), (2, .int (Int32.ofInt a1))]) (hw : wH G A s.heap s (LL adr) (wf G adr (tm M)) H locs) : W p l e { frames := 8, cells := 3, slots := 18, locals := 139 } s m args below meth c H locs 0 0 (vx_MQ below Qc (xX G A (LL adr) (fun E g => ∃ k M', o9 = .inl (k, M') ∧ E = eN k ∧ g = wf G adr (tm M'))) args s 3 18 A) (F0 m 0 ls []) := by
  obtain ⟨hx, hb, -, hml, hown, hts, hlocks⟩ := id cx
  have hown : s.vm.findClass RX7 = some m.cls := hown
  unfold f_X7_gcd at h
  refine lv_iload_n hx hb dX7_gcd_0 rfl (lv_at hl 1 rfl) ?_
  replace h := bnd h
  obtain ⟨v1, e1, h⟩ := h
  refine y_callSv (c1 := 1) (s1 := 6) (As := [.int (Int32.ofInt a0)]) (rest := []) cx.fix hY hw (cc_X7_requirePolynomial (l := l) (G := G) (sz := H.size) hl0 hi e1) (w_cS 1 hts q_539 q_540 q_541 q_542 rfl rfl (by decide) (by decide)) hl.1 rfl (lv_room (Nat.le_of_ble_eq_true rfl)) dX7_gcd_1 (by decide) rfl rfl (fun k9 M9 ce q9 H locs ho hw hce hcv hcl => ?_) (fun M2 H locs ho hw => ?_)
  · subst ho
    cases h
    exact x_out hnt hlocks hw ⟨k9, M9, rfl, rfl, rfl⟩ hce hcv hcl (by decide) (by decide)
  subst ho
  (try dsimp only at h)
  refine lv_iload_n hx hb dX7_gcd_4 rfl (lv_at hl 2 rfl) ?_
  replace h := bnd h
  obtain ⟨v3, e3, h⟩ := h
  refine y_callSv (c1 := 2) (s1 := 12) (As := [.int (Int32.ofInt a1)]) (rest := []) cx.fix hY hw (cc_X7_requirePolynomial (l := l) (G := G) (sz := H.size) hl0 hi e3) (w_cS 1 hts q_539 q_540 q_541 q_542 rfl rfl (by decide) (by decide)) hl.1 rfl (lv_room (Nat.le_of_ble_eq_true rfl)) dX7_gcd_5 (by decide) rfl rfl (fun k9 M9 ce q9 H locs ho hw hce hcv hcl => ?_) (fun M4 H locs ho hw => ?_)
  · subst ho
    cases h
    exact x_out hnt hlocks hw ⟨k9, M9, rfl, rfl, rfl⟩ hce hcv hcl (by decide) (by decide)
  subst ho
  (try dsimp only at h)
  refine lv_aload_n hx hb dX7_gcd_8 rfl (lv_at hl 0 rfl) ?_
  replace h := bnd h
  obtain ⟨v5, e5, h⟩ := h
  refine y_callVv (k := 0) (c1 := 3) (s1 := 18) (As := []) (rest := []) cx.fix hi hY hw (cc_X7_requireNumber (l := l) (G := G) (sz := H.size) hl0 hi e5) (by decide) rfl rfl (w_cV 0 hts q_533 q_534 q_535 q_536 q_537 rfl rfl (by decide) (by decide)) hl.1 rfl (lv_room (Nat.le_of_ble_eq_true rfl)) dX7_gcd_9 (by decide) rfl rfl (fun k9 M9 ce q9 H locs ho hw hce hcv hcl => ?_) (fun M6 H locs ho hw => ?_)
  · subst ho
    cases h
    exact x_out hnt hlocks hw ⟨k9, M9, rfl, rfl, rfl⟩ hce hcv hcl (by decide) (by decide)
  subst ho
  (try dsimp only at h)
  refine lv_aload_n hx hb dX7_gcd_12 rfl (lv_at hl 0 rfl) ?_
  refine lv_iload_n hx hb dX7_gcd_13 rfl (lv_at hl 1 rfl) ?_
  refine lv_aload_n hx hb dX7_gcd_14 rfl (lv_at hl 0 rfl) ?_
  refine m_get (k := 0) (C := RX7) (T := TX7) (N := 15) (ref := "LiftFactors") (v := .ref (adr 10)) hx hb hi hts inX7_u hown hw (by decide) rfl 5 (by decide) q_556 rfl rfl dX7_gcd_15 ?_
  replace h := bnd h
  obtain ⟨v7, e7, h⟩ := h
  refine n_callVv (k := 0) (As := [.int (Int32.ofInt a0), .ref (adr 10)]) (rest := []) cx.fix hi hw (cc_X7_load (l := l) (G := G) (sz := H.size) hi e7) (by decide) rfl rfl (w_cV 2 hts q_557 q_558 q_559 q_560 q_561 rfl rfl (by decide) (by decide)) (by decide) hl.1 rfl (lv_room (Nat.le_of_ble_eq_true rfl)) dX7_gcd_18 (fun H locs hw => ?_)
  refine lv_aload_n hx hb dX7_gcd_21 rfl (lv_at hl 0 rfl) ?_
  refine lv_iload_n hx hb dX7_gcd_22 rfl (lv_at hl 2 rfl) ?_
  refine lv_aload_n hx hb dX7_gcd_23 rfl (lv_at hl 0 rfl) ?_
  refine m_get (k := 0) (C := RX7) (T := TX7) (N := 15) (ref := "LiftFactors") (v := .ref (adr 11)) hx hb hi hts inX7_u hown hw (by decide) rfl 6 (by decide) q_562 rfl rfl dX7_gcd_24 ?_
  replace h := bnd h
  obtain ⟨v8, e8, h⟩ := h
  refine n_callVv (k := 0) (As := [.int (Int32.ofInt a1), .ref (adr 11)]) (rest := []) cx.fix hi hw (cc_X7_load (l := l) (G := G) (sz := H.size) hi e8) (by decide) rfl rfl (w_cV 2 hts q_557 q_558 q_559 q_560 q_561 rfl rfl (by decide) (by decide)) (by decide) hl.1 rfl (lv_room (Nat.le_of_ble_eq_true rfl)) dX7_gcd_27 (fun H locs hw => ?_)
  refine lv_aload_n hx hb dX7_gcd_30 rfl (lv_at hl 0 rfl) ?_
  refine m_get (k := 0) (C := RX7) (T := TX7) (N := 15) (ref := "LiftFactors") (v := .ref (adr 3)) hx hb hi hts inX7_u hown hw (by decide) rfl 11 (by decide) q_567 rfl rfl dX7_gcd_31 ?_
  refine lv_aload_n hx hb dX7_gcd_34 rfl (lv_at hl 0 rfl) ?_
  refine m_get (k := 0) (C := RX7) (T := TX7) (N := 15) (ref := "LiftFactors") (v := .ref (adr 10)) hx hb hi hts inX7_u hown hw (by decide) rfl 5 (by decide) q_556 rfl rfl dX7_gcd_35 ?_
  refine lv_aload_n hx hb dX7_gcd_38 rfl (lv_at hl 0 rfl) ?_
  refine m_get (k := 0) (C := RX7) (T := TX7) (N := 15) (ref := "LiftFactors") (v := .ref (adr 11)) hx hb hi hts inX7_u hown hw (by decide) rfl 6 (by decide) q_562 rfl rfl dX7_gcd_39 ?_
  refine lv_aload_n hx hb dX7_gcd_42 rfl (lv_at hl 0 rfl) ?_
  refine m_get (k := 0) (C := RX7) (T := TX7) (N := 15) (ref := "LiftFactors") (v := .ref (adr 12)) hx hb hi hts inX7_u hown hw (by decide) rfl 7 (by decide) q_538 rfl rfl dX7_gcd_43 ?_
  replace h := bnd h
  obtain ⟨v9, e9, h⟩ := h
  refine p_callVv (k := 3) (As := [.ref (adr 10), .ref (adr 11), .ref (adr 12)]) (rest := []) cx.fix hi hY hw (cc_X0_find (l := l) (G := G) (sz := H.size) hi e9) (by decide) rfl rfl (w_cV 3 hts q_568 q_503 q_504 q_505 q_506 rfl rfl (by decide) (by decide)) hl.1 rfl (lv_room (Nat.le_of_ble_eq_true rfl)) dX7_gcd_46 (by decide) (fun H locs hw => ?_)
  refine lv_aload_n hx hb dX7_gcd_49 rfl (lv_at hl 0 rfl) ?_
  refine m_get (k := 0) (C := RX7) (T := TX7) (N := 15) (ref := "LiftFactors") (v := .ref (adr 12)) hx hb hi hts inX7_u hown hw (by decide) rfl 7 (by decide) q_538 rfl rfl dX7_gcd_50 ?_
  replace h := bnd h
  obtain ⟨v10, e10, h⟩ := h
  refine n_callSi (As := [.ref (adr 12)]) (rest := []) cx.fix hw (cc_X7_isTooGreat (l := l) (G := G) (sz := H.size) hi e10) (w_cS 1 hts q_552 q_553 q_554 q_555 rfl rfl (by decide) (by decide)) (by decide) hl.1 rfl (lv_room (Nat.le_of_ble_eq_true rfl)) dX7_gcd_53 (fun H locs hw => ?_)
  replace h := bnd h
  obtain ⟨_, hg, h⟩ := h
  refine o_if_eq (tgt := 61) hx hb hg dX7_gcd_56 (by decide) (fun hc => ?_) (fun hc => ?_)
  · replace h := ite_t hc h
    refine lv_aload_n hx hb dX7_gcd_61 rfl (lv_at hl 0 rfl) ?_
    refine lv_aload_n hx hb dX7_gcd_62 rfl (lv_at hl 0 rfl) ?_
    refine m_get (k := 0) (C := RX7) (T := TX7) (N := 15) (ref := "LiftFactors") (v := .ref (adr 12)) hx hb hi hts inX7_u hown hw (by decide) rfl 7 (by decide) q_538 rfl rfl dX7_gcd_63 ?_
    replace h := bnd h
    obtain ⟨⟨v11, M12⟩, e11, h⟩ := h
    refine n_callVi (k := 0) (As := [.ref (adr 12)]) (rest := []) cx.fix hi hw (cc_X7_keep (l := l) (G := G) (sz := H.size) hi e11) (by decide) rfl rfl (w_cV 1 hts q_473 q_474 q_475 q_476 q_477 rfl rfl (by decide) (by decide)) (by decide) hl.1 rfl (lv_room (Nat.le_of_ble_eq_true rfl)) dX7_gcd_66 (fun H locs hw => ?_)
    cases h
    exact kr _ _ _ _ dX7_gcd_69 hw
  · replace h := ite_f hc h
    refine lv_iconst (v := Int32.ofInt (-1)) hx hb dX7_gcd_59 rfl ?_
    cases h
    exact kr _ _ _ _ dX7_gcd_60 hw
theorem cc_X7_gcd {l : Launch} (hl0 : l.stackTraces = false) {G : gG} {adr : Nat → Nat} {sz : Nat} (hi : adi adr) {n : Nat} {a0 : Int} {a1 : Int} {M : MI} {o9 : (Nat × MI) ⊕ (Int × MI)} (h : f_X7_gcd n a0 a1 M = some o9) : yI l yX7_gcd cX7_gcd 3 (some .int) { frames := 8, cells := 3, slots := 18, locals := 139 } G adr [.ref (adr 0), .int (Int32.ofInt a0), .int (Int32.ofInt a1)] (tm M) sz 3 18 o9 := by
  refine yEnterX (by decide) (Nat.le_of_ble_eq_true rfl) ?_
  intro p e s m below meth c ls cx hnt hl hsz hw hY
  refine b_X7_gcd hl0 cx hnt hY hi ?_ h hl hw
  clear h
  rcases o9 with o9 | q9
  · trivial
  · dsimp only
    intro pc ls H locs hd hw
    refine vx_ret ?_
    refine W.widen (k := 3) (n := 18) (by decide) (by decide) ?_
    exact w_iret (post := fun (r9 : Int32) (u : Mem) => ∃ r M', Sum.inr q9 = (.inr (r, M') : (Nat × MI) ⊕ (Int × MI)) ∧ r9 = Int32.ofInt r ∧ u = tm M') (lf := fun u => (LL adr, wf G adr u)) cx.1 cx.2.1 cx.2.2.1 cx.2.2.2.2.2.2 (tm q9.2) hw ⟨q9.1, q9.2, rfl, rfl, rfl⟩ hd
