theorem q_569 : Cond.methodLink RX7 156 yX5_makePrimitive ∈ uU := uU_in (by decide +kernel) (by decide +kernel)
theorem q_570 : Cond.methodLink RX7 160 yX2_findFactors ∈ uU := uU_in (by decide +kernel) (by decide +kernel)
theorem q_571 : Cond.instanceMethod yX2_findFactors ∈ uU := uU_in (by decide +kernel) (by decide +kernel)
theorem q_572 : Cond.selects yX2_findFactors.cls yX2_findFactors yX2_findFactors ∈ uU := uU_in (by decide +kernel) (by decide +kernel)
theorem q_573 : Cond.initialized yX2_findFactors.cls ∈ uU := uU_in (by decide +kernel) (by decide +kernel)
theorem q_574 : Cond.code yX2_findFactors cX2_findFactors 2 none ∈ uU := uU_in (by decide +kernel) (by decide +kernel)
theorem q_575 : Cond.methodLink RX7 170 yX7_keepFactors ∈ uU := uU_in (by decide +kernel) (by decide +kernel)
theorem q_576 : Cond.instanceMethod yX7_keepFactors ∈ uU := uU_in (by decide +kernel) (by decide +kernel)
theorem q_577 : Cond.selects yX7_keepFactors.cls yX7_keepFactors yX7_keepFactors ∈ uU := uU_in (by decide +kernel) (by decide +kernel)
theorem q_578 : Cond.initialized yX7_keepFactors.cls ∈ uU := uU_in (by decide +kernel) (by decide +kernel)
theorem q_579 : Cond.code yX7_keepFactors cX7_keepFactors 2 none ∈ uU := uU_in (by decide +kernel) (by decide +kernel)
def l_X7_run_68 (n : Nat) (v6 : MI) : Int → Option ((((Nat × MI) ⊕ (Int × MI)) ⊕ (Unit)) ⊕ (Int)) := fun v7 =>
  Option.bind (gI v7 (v6.2 5 2)) fun _ =>
  if (v6.2 5 2) ≤ v7 then
    some (.inl (.inr ()))
  else
    Option.bind (odA 26 v7) fun v8 =>
    Option.bind (f_X7_isTooGreat n v8 v6) fun v9 =>
    Option.bind (gI v9 0) fun _ =>
    if v9 = 0 then
      some (.inr (v7 + 1))
    else
      some (.inl (.inl (.inr ((-2), v6))))
def f_X7_run (n : Nat) (a0 : Int) (M : MI) : Option ((Nat × MI) ⊕ (Int × MI)) :=
  Option.bind (f_X7_requirePolynomial a0 M) fun v1 => match v1 with
  | .inl o => some (.inl o)
  | .inr M2 =>
  Option.bind (f_X7_load n a0 10 M2) fun v3 =>
  Option.bind (f_X5_degree n 10 v3) fun v4 =>
  Option.bind (gI v4 ((80) - (v3.2 0 1))) fun _ =>
  if v4 ≤ ((80) - (v3.2 0 1)) then
    Option.bind (gI v4 0) fun _ =>
    if 0 ≤ v4 then
      Option.bind (f_X5_makePrimitive n 10 v3) fun v5 =>
      Option.bind (f_X2_findFactors n 10 v5) fun v6 =>
      Option.bind (lpF (l_X7_run_68 n v6) n (0)) fun r => match r with
      | .inl o => some o
      | .inr () =>
        Option.bind (f_X7_keepFactors n v6) fun v11 =>
        some (.inr (v11.2 0 4, v11))
    else
      some (.inr ((-1), v3))
  else
    some (.inl (2, v3))
set_option maxRecDepth 100000 in
set_option maxHeartbeats 8000000 in
theorem b_X7_run {p : Program} {l : Launch} (hl0 : l.stackTraces = false) {e : Env} {s : State} {m : MethodId} {args : Array Value} {below : List Frame} {meth : Method} {c : Code} {Qc : Array Value → State → Outcome → State → Prop} {G : gG} {A : Nat → Prop} {adr : Nat → Nat} (cx : cX p s m args meth c cX7_run (some .int) 4 yX7_run.cls) (hnt : ∀ x ∈ c.exceptionTable.toList, False) (hY : tY A s s.heap) (hi : adi adr) {n : Nat} {a0 : Int} {M : MI} {o9 : (Nat × MI) ⊕ (Int × MI)} 
    (kr : (match o9 with | .inl _ => True | .inr q9 => ∀ (pc : Nat) (ls : Array Slot) (H : Heap) (locs : List Loc), decode cX7_run pc = .ok (.ireturn, 1) → wH G A s.heap s (LL adr) (wf G adr (tm q9.2)) H locs → W p l e { frames := 8, cells := 2, slots := 12, locals := 181 } s m args below meth c H locs 1 6 (vx_MQ below Qc (xX G A (LL adr) (fun E g => ∃ k M', o9 = .inl (k, M') ∧ E = eN k ∧ g = wf G adr (tm M'))) args s 2 12 A) (F0 m pc ls [.int (Int32.ofInt q9.1)])))
    (h : f_X7_run n a0 M = some o9)
    {ls : Array Slot} {H : Heap} {locs : List Loc} (hl : lv_has ls 4 [(0, .ref (adr 0)), (1, .int (Int32.ofInt a0))]) (hw : wH G A s.heap s (LL adr) (wf G adr (tm M)) H locs) : W p l e { frames := 8, cells := 2, slots := 12, locals := 181 } s m args below meth c H locs 0 0 (vx_MQ below Qc (xX G A (LL adr) (fun E g => ∃ k M', o9 = .inl (k, M') ∧ E = eN k ∧ g = wf G adr (tm M'))) args s 2 12 A) (F0 m 0 ls []) := by
  obtain ⟨hx, hb, -, hml, hown, hts, hlocks⟩ := id cx
  have hown : s.vm.findClass RX7 = some m.cls := hown
  unfold f_X7_run at h
  refine lv_iload_n hx hb dX7_run_0 rfl (lv_at hl 1 rfl) ?_
  replace h := bnd h
  obtain ⟨v1, e1, h⟩ := h
  refine y_callSv (c1 := 1) (s1 := 6) (As := [.int (Int32.ofInt a0)]) (rest := []) cx.fix hY hw (cc_X7_requirePolynomial (l := l) (G := G) (sz := H.size) hl0 hi e1) (w_cS 1 hts q_539 q_540 q_541 q_542 rfl rfl (by decide) (by decide)) hl.1 rfl (lv_room (Nat.le_of_ble_eq_true rfl)) dX7_run_1 (by decide) rfl rfl (fun k9 M9 ce q9 H locs ho hw hce hcv hcl => ?_) (fun M2 H locs ho hw => ?_)
  · subst ho
    cases h
    exact x_out hnt hlocks hw ⟨k9, M9, rfl, rfl, rfl⟩ hce hcv hcl (by decide) (by decide)
  subst ho
  (try dsimp only at h)
  refine lv_aload_n hx hb dX7_run_4 rfl (lv_at hl 0 rfl) ?_
  refine lv_iload_n hx hb dX7_run_5 rfl (lv_at hl 1 rfl) ?_
  refine lv_aload_n hx hb dX7_run_6 rfl (lv_at hl 0 rfl) ?_
  refine m_get (k := 0) (C := RX7) (T := TX7) (N := 15) (ref := "LiftFactors") (v := .ref (adr 10)) hx hb hi hts inX7_u hown hw (by decide) rfl 5 (by decide) q_556 rfl rfl dX7_run_7 ?_
  replace h := bnd h
  obtain ⟨v3, e3, h⟩ := h
  refine n_callVv (k := 0) (As := [.int (Int32.ofInt a0), .ref (adr 10)]) (rest := []) cx.fix hi hw (cc_X7_load (l := l) (G := G) (sz := H.size) hi e3) (by decide) rfl rfl (w_cV 2 hts q_557 q_558 q_559 q_560 q_561 rfl rfl (by decide) (by decide)) (by decide) hl.1 rfl (lv_room (Nat.le_of_ble_eq_true rfl)) dX7_run_10 (fun H locs hw => ?_)
  refine lv_aload_n hx hb dX7_run_13 rfl (lv_at hl 0 rfl) ?_
  refine m_get (k := 0) (C := RX7) (T := TX7) (N := 15) (ref := "LiftFactors") (v := .ref (adr 10)) hx hb hi hts inX7_u hown hw (by decide) rfl 5 (by decide) q_556 rfl rfl dX7_run_14 ?_
  replace h := bnd h
  obtain ⟨v4, e4, h⟩ := h
  refine n_callSi (As := [.ref (adr 10)]) (rest := []) cx.fix hw (cc_X5_degree (l := l) (G := G) (sz := H.size) hi e4) (w_cS 1 hts q_563 q_246 q_247 q_248 rfl rfl (by decide) (by decide)) (by decide) hl.1 rfl (lv_room (Nat.le_of_ble_eq_true rfl)) dX7_run_17 (fun H locs hw => ?_)
  refine lv_istore_n (lv' := [(2, .int (Int32.ofInt v4)), (0, .ref (adr 0)), (1, .int (Int32.ofInt a0))]) hx hb dX7_run_20 rfl hl (by decide) rfl (fun ls hl => ?_)
  refine lv_iload_n hx hb dX7_run_21 rfl (lv_at hl 0 rfl) ?_
  refine lv_bipush (v := Int32.ofInt (80)) hx hb dX7_run_22 rfl ?_
  refine lv_aload_n hx hb dX7_run_24 rfl (lv_at hl 1 rfl) ?_
  refine m_get (k := 0) (C := RX7) (T := TX7) (N := 15) (ref := "LiftFactors") (v := .int (Int32.ofInt (v3.2 0 1))) hx hb hi hts inX7_u hown hw (by decide) rfl 1 (by decide) q_467 rfl rfl dX7_run_25 ?_
  refine o_isub hx hb dX7_run_28 ?_
  replace h := bnd h
  obtain ⟨_, hg, h⟩ := h
  refine o_icmp_le (tgt := 42) hx hb hg dX7_run_29 (by decide) (fun hc => ?_) (fun hc => ?_)
  · replace h := ite_t hc h
    refine lv_iload_n hx hb dX7_run_42 rfl (lv_at hl 0 rfl) ?_
    replace h := bnd h
    obtain ⟨_, hg, h⟩ := h
    refine o_if_ge (tgt := 48) hx hb hg dX7_run_43 (by decide) (fun hc => ?_) (fun hc => ?_)
    · replace h := ite_t hc h
      refine lv_aload_n hx hb dX7_run_48 rfl (lv_at hl 1 rfl) ?_
      refine m_get (k := 0) (C := RX7) (T := TX7) (N := 15) (ref := "LiftFactors") (v := .ref (adr 10)) hx hb hi hts inX7_u hown hw (by decide) rfl 5 (by decide) q_556 rfl rfl dX7_run_49 ?_
      replace h := bnd h
      obtain ⟨v5, e5, h⟩ := h
      refine n_callSv (As := [.ref (adr 10)]) (rest := []) cx.fix hw (cc_X5_makePrimitive (l := l) (G := G) (sz := H.size) hi e5) (w_cS 1 hts q_569 q_409 q_410 q_411 rfl rfl (by decide) (by decide)) (by decide) hl.1 rfl (lv_room (Nat.le_of_ble_eq_true rfl)) dX7_run_52 (fun H locs hw => ?_)
      refine lv_aload_n hx hb dX7_run_55 rfl (lv_at hl 1 rfl) ?_
      refine m_get (k := 0) (C := RX7) (T := TX7) (N := 15) (ref := "LiftFactors") (v := .ref (adr 5)) hx hb hi hts inX7_u hown hw (by decide) rfl 13 (by decide) q_468 rfl rfl dX7_run_56 ?_
      refine lv_aload_n hx hb dX7_run_59 rfl (lv_at hl 1 rfl) ?_
      refine m_get (k := 0) (C := RX7) (T := TX7) (N := 15) (ref := "LiftFactors") (v := .ref (adr 10)) hx hb hi hts inX7_u hown hw (by decide) rfl 5 (by decide) q_556 rfl rfl dX7_run_60 ?_
      replace h := bnd h
      obtain ⟨v6, e6, h⟩ := h
      refine p_callVv (k := 5) (As := [.ref (adr 10)]) (rest := []) cx.fix hi hY hw (cc_X2_findFactors (l := l) (G := G) (sz := H.size) hi e6) (by decide) rfl rfl (w_cV 1 hts q_570 q_571 q_572 q_573 q_574 rfl rfl (by decide) (by decide)) hl.1 rfl (lv_room (Nat.le_of_ble_eq_true rfl)) dX7_run_63 (by decide) (fun H locs hw => ?_)
      refine lv_iconst (v := Int32.ofInt (0)) hx hb dX7_run_66 rfl ?_
      refine lv_istore_n (lv' := [(3, .int (Int32.ofInt (0))), (2, .int (Int32.ofInt v4)), (0, .ref (adr 0)), (1, .int (Int32.ofInt a0))]) hx hb dX7_run_67 rfl hl (by decide) rfl (fun ls hl => ?_)
      replace h := bnd h
      obtain ⟨o12, j10, h⟩ := h
      refine lp_W (Wst := fun (st : Int) => ∀ (ls : Array Slot) (H : Heap) (locs : List Loc), lv_has ls 4 [(0, .ref (adr 0)), (3, .int (Int32.ofInt st))] → wH G A s.heap s (LL adr) (wf G adr (tm v6)) H locs → W p l e { frames := 8, cells := 2, slots := 12, locals := 181 } s m args below meth c H locs 1 6 (vx_MQ below Qc (xX G A (LL adr) (fun E g => ∃ k M', o9 = .inl (k, M') ∧ E = eN k ∧ g = wf G adr (tm M'))) args s 2 12 A) (F0 m 68 ls [])) (fin := fun (r : ((Nat × MI) ⊕ (Int × MI)) ⊕ (Unit)) => match r with
        | .inl o => (match o with | .inl _ => True | .inr q9 => ∀ (pc : Nat) (ls : Array Slot) (H : Heap) (locs : List Loc), decode cX7_run pc = .ok (.ireturn, 1) → wH G A s.heap s (LL adr) (wf G adr (tm q9.2)) H locs → W p l e { frames := 8, cells := 2, slots := 12, locals := 181 } s m args below meth c H locs 1 6 (vx_MQ below Qc (xX G A (LL adr) (fun E g => ∃ k M', o9 = .inl (k, M') ∧ E = eN k ∧ g = wf G adr (tm M'))) args s 2 12 A) (F0 m pc ls [.int (Int32.ofInt q9.1)]))
        | .inr q => ∀ (ls : Array Slot) (H : Heap) (locs : List Loc), lv_has ls 4 [(0, .ref (adr 0))] → wH G A s.heap s (LL adr) (wf G adr (tm v6)) H locs → W p l e { frames := 8, cells := 2, slots := 12, locals := 181 } s m args below meth c H locs 1 6 (vx_MQ below Qc (xX G A (LL adr) (fun E g => ∃ k M', o9 = .inl (k, M') ∧ E = eN k ∧ g = wf G adr (tm M'))) args s 2 12 A) (F0 m 103 ls [])) ?_ n _ _ j10 ?_ _ _ _ (lv_sub hl [2, 0] rfl) hw
      · clear h j10 hw hl
        intro v7 x h k1 k2 ls H locs hl hw
        (try dsimp only at k2 hl hw ⊢)
        unfold l_X7_run_68 at h
        (try dsimp only at h)
        refine lv_iload_n hx hb dX7_run_68 rfl (lv_at hl 1 rfl) ?_
        refine lv_aload_n hx hb dX7_run_69 rfl (lv_at hl 0 rfl) ?_
        refine m_get (k := 0) (C := RX7) (T := TX7) (N := 15) (ref := "LiftFactors") (v := .ref (adr 5)) hx hb hi hts inX7_u hown hw (by decide) rfl 13 (by decide) q_468 rfl rfl dX7_run_70 ?_
        refine m_get (k := 5) (C := RX2) (T := TX2) (N := 11) (ref := "LiftFactors$Factorizer") (v := .int (Int32.ofInt (v6.2 5 2))) hx hb hi hts inX2_u hown hw (by decide) rfl 2 (by decide) q_469 rfl rfl dX7_run_73 ?_
        replace h := bnd h
        obtain ⟨_, hg, h⟩ := h
        refine o_icmp_ge (tgt := 103) hx hb hg dX7_run_76 (by decide) (fun hc => ?_) (fun hc => ?_)
        · replace h := ite_t hc h
          cases h
          exact k1 _ rfl _ _ _ (lv_sub hl [0] rfl) hw
        · replace h := ite_f hc h
          refine lv_aload_n hx hb dX7_run_79 rfl (lv_at hl 0 rfl) ?_
          refine m_get (k := 0) (C := RX7) (T := TX7) (N := 15) (ref := "LiftFactors") (v := .ref (adr 5)) hx hb hi hts inX7_u hown hw (by decide) rfl 13 (by decide) q_468 rfl rfl dX7_run_80 ?_
          refine m_get (k := 5) (C := RX2) (T := TX2) (N := 11) (ref := "LiftFactors$Factorizer") (v := .ref (adr 26)) hx hb hi hts inX2_u hown hw (by decide) rfl 0 (by decide) q_472 rfl rfl dX7_run_83 ?_
          refine lv_iload_n hx hb dX7_run_86 rfl (lv_at hl 1 rfl) ?_
          replace h := bnd h
          obtain ⟨v8, e8, h⟩ := h
          refine o_aald hx hb hi hw e8 dX7_run_87 ?_
          replace h := bnd h
          obtain ⟨v9, e9, h⟩ := h
          refine n_callSi (As := [.ref (adr v8)]) (rest := []) cx.fix hw (cc_X7_isTooGreat (l := l) (G := G) (sz := H.size) hi e9) (w_cS 1 hts q_552 q_553 q_554 q_555 rfl rfl (by decide) (by decide)) (by decide) hl.1 rfl (lv_room (Nat.le_of_ble_eq_true rfl)) dX7_run_88 (fun H locs hw => ?_)
          replace h := bnd h
          obtain ⟨_, hg, h⟩ := h
          refine o_if_eq (tgt := 97) hx hb hg dX7_run_91 (by decide) (fun hc => ?_) (fun hc => ?_)
          · replace h := ite_t hc h
            refine lv_iinc (v := Int32.ofInt (v7 + 1)) (lv' := [(3, .int (Int32.ofInt (v7 + 1))), (0, .ref (adr 0))]) hx hb dX7_run_97 hl (k := 1) rfl (inc_o _ _) (by decide) rfl (fun ls hl => ?_)
            refine lv_goto (tgt := 68) hx hb dX7_run_100 (by decide) ?_
            cases h
            exact k2 _ rfl _ _ _ (lv_sub hl [1, 0] rfl) hw
          · replace h := ite_f hc h
            refine lv_bipush (v := Int32.ofInt (-2)) hx hb dX7_run_94 rfl ?_
            cases h
            exact k1 _ rfl _ _ _ _ dX7_run_96 hw
      · clear hw hl j10
        rcases o12 with o9 | _
        · cases h
          exact kr
        · intro ls H locs hl hw
          (try dsimp only at h hl hw ⊢)
          refine lv_aload_n hx hb dX7_run_103 rfl (lv_at hl 0 rfl) ?_
          replace h := bnd h
          obtain ⟨v11, e11, h⟩ := h
          refine n_callVv (k := 0) (As := []) (rest := []) cx.fix hi hw (cc_X7_keepFactors (l := l) (G := G) (sz := H.size) hi e11) (by decide) rfl rfl (w_cV 0 hts q_575 q_576 q_577 q_578 q_579 rfl rfl (by decide) (by decide)) (by decide) hl.1 rfl (lv_room (Nat.le_of_ble_eq_true rfl)) dX7_run_104 (fun H locs hw => ?_)
          refine lv_aload_n hx hb dX7_run_107 rfl (lv_at hl 0 rfl) ?_
          refine m_get (k := 0) (C := RX7) (T := TX7) (N := 15) (ref := "LiftFactors") (v := .int (Int32.ofInt (v11.2 0 4))) hx hb hi hts inX7_u hown hw (by decide) rfl 4 (by decide) q_470 rfl rfl dX7_run_108 ?_
          cases h
          exact kr _ _ _ _ dX7_run_111 hw
    · replace h := ite_f hc h
      refine lv_iconst (v := Int32.ofInt (-1)) hx hb dX7_run_46 rfl ?_
      cases h
      exact kr _ _ _ _ dX7_run_47 hw
  · replace h := ite_f hc h
    cases h
    exact w_throwS (cls := nIS) (text := "too few numbers are left") hx hb hl0 hown hts fit_IS fitn_2 uw_classLink_RX7_151_nIS uw_initialized_nIS (by decide +kernel) at_IS an_IS ot_IS hY.1 hw (hl.1.trans hml.symm) dX7_run_32 dX7_run_35 dX7_run_36 dX7_run_38 dX7_run_41 hnt (by decide) (by decide) (by decide) (by decide) hlocks ⟨2, _, rfl, rfl, rfl⟩ (by decide) (by decide)
theorem cc_X7_run {l : Launch} (hl0 : l.stackTraces = false) {G : gG} {adr : Nat → Nat} {sz : Nat} (hi : adi adr) {n : Nat} {a0 : Int} {M : MI} {o9 : (Nat × MI) ⊕ (Int × MI)} (h : f_X7_run n a0 M = some o9) : yI l yX7_run cX7_run 4 (some .int) { frames := 8, cells := 2, slots := 12, locals := 181 } G adr [.ref (adr 0), .int (Int32.ofInt a0)] (tm M) sz 2 12 o9 := by
  refine yEnterX (by decide) (Nat.le_of_ble_eq_true rfl) ?_
  intro p e s m below meth c ls cx hnt hl hsz hw hY
  refine b_X7_run hl0 cx hnt hY hi ?_ h hl hw
  clear h
  rcases o9 with o9 | q9
  · trivial
  · dsimp only
    intro pc ls H locs hd hw
    refine vx_ret ?_
    refine W.widen (k := 2) (n := 12) (by decide) (by decide) ?_
    exact w_iret (post := fun (r9 : Int32) (u : Mem) => ∃ r M', Sum.inr q9 = (.inr (r, M') : (Nat × MI) ⊕ (Int × MI)) ∧ r9 = Int32.ofInt r ∧ u = tm M') (lf := fun u => (LL adr, wf G adr u)) cx.1 cx.2.1 cx.2.2.1 cx.2.2.2.2.2.2 (tm q9.2) hw ⟨q9.1, q9.2, rfl, rfl, rfl⟩ hd
