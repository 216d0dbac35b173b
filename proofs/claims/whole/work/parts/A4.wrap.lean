theorem q_612 : Cond.methodLink RL 7 yX7_poly ∈ uU := uU_in (by decide +kernel) (by decide +kernel)
theorem q_613 : Cond.instanceMethod yX7_poly ∈ uU := uU_in (by decide +kernel) (by decide +kernel)
theorem q_614 : Cond.selects yX7_poly.cls yX7_poly yX7_poly ∈ uU := uU_in (by decide +kernel) (by decide +kernel)
theorem q_615 : Cond.initialized yX7_poly.cls ∈ uU := uU_in (by decide +kernel) (by decide +kernel)
theorem q_616 : Cond.code yX7_poly cX7_poly 1 (some .int) ∈ uU := uU_in (by decide +kernel) (by decide +kernel)
theorem q_617 : Cond.classLink RL 13 nIS ∈ uU := uU_in (by decide +kernel) (by decide +kernel)
def fL_poly (n : Nat) (M : MI) : Option (Int × MI) :=
  Option.bind (f_X7_poly n M) fun o => match o with
  | .inl (k, M1) => if k = 2 then some (1, M1) else none
  | .inr (r, M1) => Option.bind (gI r 0) fun _ => Option.bind (osJ M1 48 0 r) fun M2 => some (0, M2)
set_option maxRecDepth 100000 in
set_option maxHeartbeats 4000000 in
theorem cc_L_poly {l : Launch} (hl0 : l.stackTraces = false) {G : gG} {adr : Nat → Nat} {sz : Nat} (hi : adi adr) {n : Nat} {M M' : MI} {r : Int} (h : fL_poly n M = some (r, M')) : hI l yL_poly cL_poly 3 (some .int) [(0, 8, 11, 13)] { frames := 8, cells := 1, slots := 6, locals := 122 } G adr [.ref (adr 0), .ref (adr 48)] (tm M) sz 1 6 r M' := by
  refine yhEnter (by decide) (Nat.le_of_ble_eq_true rfl) ?_
  intro p e s m below meth c ls cx htab hl hw hY
  obtain ⟨hx, hb, hr, hml, hown, hts, hlocks⟩ := id cx
  have hown : s.vm.findClass RL = some m.cls := hown
  have hl : lv_has ls 3 [(0, .ref (adr 0)), (1, .ref (adr 48))] := hl
  generalize wA (LL adr) (wf G adr (tm M)) sz = A at hw hY ⊢
  unfold fL_poly at h
  obtain ⟨o, e1, h⟩ := bnd h
  refine lv_aload_n hx hb dL_poly_0 rfl (lv_at hl 1 rfl) ?_
  refine lv_iconst (v := Int32.ofInt (0)) hx hb dL_poly_1 rfl ?_
  refine lv_aload_n hx hb dL_poly_2 rfl (lv_at hl 0 rfl) ?_
  refine y_callVi (k := 0) (c1 := 1) (s1 := 6) (As := []) (rest := [.int (Int32.ofInt (0)), .ref (adr 48)]) cx.fix hi hY hw (cc_X7_poly (l := l) (G := G) hl0 hi e1) (by decide) rfl rfl (w_cV 0 hts q_612 q_613 q_614 q_615 q_616 rfl rfl (by decide) (by decide)) hl.1 rfl (lv_room (Nat.le_of_ble_eq_true rfl)) dL_poly_3 (by decide) rfl rfl (fun k9 M9 ce q9 H locs ho hw hce hcv hcl => ?_) (fun r9 M9 H locs ho hw => ?_)
  · subst ho
    dsimp only at h
    by_cases h2 : k9 = 2
    · subst h2
      replace h := ite_t rfl h
      cases h
      refine vx_catch (name := nIS) hown [] ⟨0, 8, 11, 13⟩ [] (by rw [htab]; rfl) (fun z h => nomatch h) (by decide) (by decide) (hts _ q_617) (va_Nw.use rfl (hY.1.2.2.2.1 (.castable nIS nIS) (by decide +kernel))) hce hcv hcl ?_
      refine lv_astore_n (lv' := [(2, .ref q9), (0, .ref (adr 0)), (1, .ref (adr 48))]) hx hb dL_poly_11 rfl hl (by decide) rfl (fun ls hl => ?_)
      refine lv_iconst (v := Int32.ofInt 1) hx hb dL_poly_12 rfl ?_
      exact w_iret (post := fun (r9 : Int32) (u : Mem) => r9 = Int32.ofInt 1 ∧ u = tm M') (lf := fun u => (LL adr, wf G adr u)) hx hb hr hlocks (tm M') hw ⟨rfl, rfl⟩ dL_poly_13
    replace h := ite_f h2 h
    cases h
  subst ho
  dsimp only at h
  obtain ⟨_, hg, h⟩ := bnd h
  obtain ⟨M2, e2, h⟩ := bnd h
  cases h
  refine o_i2l hx hb hg dL_poly_6 ?_
  refine o_last hx hb hi hw e2 dL_poly_7 (fun H locs hw => ?_)
  refine lv_goto (tgt := 14) hx hb dL_poly_8 (by decide) ?_
  refine lv_iconst (v := Int32.ofInt 0) hx hb dL_poly_14 rfl ?_
  exact w_iret (post := fun (r9 : Int32) (u : Mem) => r9 = Int32.ofInt 0 ∧ u = tm M') (lf := fun u => (LL adr, wf G adr u)) hx hb hr hlocks (tm M') hw ⟨rfl, rfl⟩ dL_poly_15
theorem q_618 : Cond.methodLink RL 15 yX7_set ∈ uU := uU_in (by decide +kernel) (by decide +kernel)
theorem q_619 : Cond.instanceMethod yX7_set ∈ uU := uU_in (by decide +kernel) (by decide +kernel)
theorem q_620 : Cond.selects yX7_set.cls yX7_set yX7_set ∈ uU := uU_in (by decide +kernel) (by decide +kernel)
theorem q_621 : Cond.initialized yX7_set.cls ∈ uU := uU_in (by decide +kernel) (by decide +kernel)
theorem q_622 : Cond.code yX7_set cX7_set 5 (some .boolean) ∈ uU := uU_in (by decide +kernel) (by decide +kernel)
theorem q_623 : Cond.classLink RL 19 nAI ∈ uU := uU_in (by decide +kernel) (by decide +kernel)
theorem q_624 : Cond.classLink RL 21 nIA ∈ uU := uU_in (by decide +kernel) (by decide +kernel)
def fL_set (a0 : Int) (a1 : Int) (a2 : Int) (M : MI) : Option (Int × MI) :=
  Option.bind (f_X7_set a0 a1 a2 M) fun o => match o with
  | .inl (k, M1) => if k = 1 then some (1, M1) else if k = 3 then some (2, M1) else none
  | .inr (r, M1) => Option.bind (gI r 0) fun _ => Option.bind (osJ M1 48 0 (if r = 0 then 0 else 1)) fun M2 => some (0, M2)
set_option maxRecDepth 100000 in
set_option maxHeartbeats 4000000 in
theorem cc_L_set {l : Launch} (hl0 : l.stackTraces = false) {G : gG} {adr : Nat → Nat} {sz : Nat} (hi : adi adr) {a0 : Int} {a1 : Int} {a2 : Int} {M M' : MI} {r : Int} (h : fL_set a0 a1 a2 M = some (r, M')) : hI l yL_set cL_set 6 (some .int) [(0, 19, 22, 19), (0, 19, 26, 21)] { frames := 9, cells := 3, slots := 18, locals := 139 } G adr [.ref (adr 0), .int (Int32.ofInt a0), .int (Int32.ofInt a1), .int (Int32.ofInt a2), .ref (adr 48)] (tm M) sz 3 18 r M' := by
  refine yhEnter (by decide) (Nat.le_of_ble_eq_true rfl) ?_
  intro p e s m below meth c ls cx htab hl hw hY
  obtain ⟨hx, hb, hr, hml, hown, hts, hlocks⟩ := id cx
  have hown : s.vm.findClass RL = some m.cls := hown
  have hl : lv_has ls 6 [(0, .ref (adr 0)), (1, .int (Int32.ofInt a0)), (2, .int (Int32.ofInt a1)), (3, .int (Int32.ofInt a2)), (4, .ref (adr 48))] := hl
  generalize wA (LL adr) (wf G adr (tm M)) sz = A at hw hY ⊢
  unfold fL_set at h
  obtain ⟨o, e1, h⟩ := bnd h
  refine lv_aload hx hb dL_set_0 (lv_at hl 4 rfl) ?_
  refine lv_iconst (v := Int32.ofInt (0)) hx hb dL_set_2 rfl ?_
  refine lv_aload_n hx hb dL_set_3 rfl (lv_at hl 0 rfl) ?_
  refine lv_iload_n hx hb dL_set_4 rfl (lv_at hl 1 rfl) ?_
  refine lv_iload_n hx hb dL_set_5 rfl (lv_at hl 2 rfl) ?_
  refine lv_iload_n hx hb dL_set_6 rfl (lv_at hl 3 rfl) ?_
  refine y_callVi (k := 0) (c1 := 3) (s1 := 18) (As := [.int (Int32.ofInt a0), .int (Int32.ofInt a1), .int (Int32.ofInt a2)]) (rest := [.int (Int32.ofInt (0)), .ref (adr 48)]) cx.fix hi hY hw (cc_X7_set (l := l) (G := G) hl0 hi e1) (by decide) rfl rfl (w_cV 3 hts q_618 q_619 q_620 q_621 q_622 rfl rfl (by decide) (by decide)) hl.1 rfl (lv_room (Nat.le_of_ble_eq_true rfl)) dL_set_7 (by decide) rfl rfl (fun k9 M9 ce q9 H locs ho hw hce hcv hcl => ?_) (fun r9 M9 H locs ho hw => ?_)
  · subst ho
    dsimp only at h
    by_cases h1 : k9 = 1
    · subst h1
      replace h := ite_t rfl h
      cases h
      refine vx_catch (name := nAI) hown [] ⟨0, 19, 22, 19⟩ [⟨0, 19, 26, 21⟩] (by rw [htab]; rfl) (fun z h => nomatch h) (by decide) (by decide) (hts _ q_623) (va_Nw.use rfl (hY.1.2.2.2.1 (.castable nAI nAI) (by decide +kernel))) hce hcv hcl ?_
      refine lv_astore (lv' := [(5, .ref q9), (0, .ref (adr 0)), (1, .int (Int32.ofInt a0)), (2, .int (Int32.ofInt a1)), (3, .int (Int32.ofInt a2)), (4, .ref (adr 48))]) hx hb dL_set_22 hl (by decide) rfl (fun ls hl => ?_)
      refine lv_iconst (v := Int32.ofInt 1) hx hb dL_set_24 rfl ?_
      exact w_iret (post := fun (r9 : Int32) (u : Mem) => r9 = Int32.ofInt 1 ∧ u = tm M') (lf := fun u => (LL adr, wf G adr u)) hx hb hr hlocks (tm M') hw ⟨rfl, rfl⟩ dL_set_25
    replace h := ite_f h1 h
    by_cases h3 : k9 = 3
    · subst h3
      replace h := ite_t rfl h
      cases h
      refine vx_catch (name := nIA) hown [⟨0, 19, 22, 19⟩] ⟨0, 19, 26, 21⟩ [] (by rw [htab]; rfl) (List.forall_mem_cons.mpr ⟨Or.inr ⟨by decide, nAI, hts _ q_623, hY.1.2.2.2.2 (nIA, nAI) (by decide)⟩, fun z h => nomatch h⟩) (by decide) (by decide) (hts _ q_624) (va_Nw.use rfl (hY.1.2.2.2.1 (.castable nIA nIA) (by decide +kernel))) hce hcv hcl ?_
      refine lv_astore (lv' := [(5, .ref q9), (0, .ref (adr 0)), (1, .int (Int32.ofInt a0)), (2, .int (Int32.ofInt a1)), (3, .int (Int32.ofInt a2)), (4, .ref (adr 48))]) hx hb dL_set_26 hl (by decide) rfl (fun ls hl => ?_)
      refine lv_iconst (v := Int32.ofInt 2) hx hb dL_set_28 rfl ?_
      exact w_iret (post := fun (r9 : Int32) (u : Mem) => r9 = Int32.ofInt 2 ∧ u = tm M') (lf := fun u => (LL adr, wf G adr u)) hx hb hr hlocks (tm M') hw ⟨rfl, rfl⟩ dL_set_29
    replace h := ite_f h3 h
    cases h
  subst ho
  dsimp only at h
  obtain ⟨_, hg, h⟩ := bnd h
  obtain ⟨M2, e2, h⟩ := bnd h
  cases h
  refine o_if_eq (tgt := 17) hx hb hg dL_set_10 (by decide) (fun hc => ?_) (fun hc => ?_)
  · rw [if_pos hc] at e2
    refine lv_lconst (v := Int64.ofInt (0)) hx hb dL_set_17 (by decide) ?_
    refine o_last hx hb hi hw e2 dL_set_18 (fun H locs hw => ?_)
    refine lv_goto (tgt := 30) hx hb dL_set_19 (by decide) ?_
    refine lv_iconst (v := Int32.ofInt 0) hx hb dL_set_30 rfl ?_
    exact w_iret (post := fun (r9 : Int32) (u : Mem) => r9 = Int32.ofInt 0 ∧ u = tm M') (lf := fun u => (LL adr, wf G adr u)) hx hb hr hlocks (tm M') hw ⟨rfl, rfl⟩ dL_set_31
  · rw [if_neg hc] at e2
    refine lv_lconst (v := Int64.ofInt (1)) hx hb dL_set_13 (by decide) ?_
    refine lv_goto (tgt := 18) hx hb dL_set_14 (by decide) ?_
    refine o_last hx hb hi hw e2 dL_set_18 (fun H locs hw => ?_)
    refine lv_goto (tgt := 30) hx hb dL_set_19 (by decide) ?_
    refine lv_iconst (v := Int32.ofInt 0) hx hb dL_set_30 rfl ?_
    exact w_iret (post := fun (r9 : Int32) (u : Mem) => r9 = Int32.ofInt 0 ∧ u = tm M') (lf := fun u => (LL adr, wf G adr u)) hx hb hr hlocks (tm M') hw ⟨rfl, rfl⟩ dL_set_31
theorem q_625 : Cond.methodLink RL 23 yX7_at ∈ uU := uU_in (by decide +kernel) (by decide +kernel)
theorem q_626 : Cond.instanceMethod yX7_at ∈ uU := uU_in (by decide +kernel) (by decide +kernel)
theorem q_627 : Cond.selects yX7_at.cls yX7_at yX7_at ∈ uU := uU_in (by decide +kernel) (by decide +kernel)
theorem q_628 : Cond.initialized yX7_at.cls ∈ uU := uU_in (by decide +kernel) (by decide +kernel)
theorem q_629 : Cond.code yX7_at cX7_at 3 (some .int) ∈ uU := uU_in (by decide +kernel) (by decide +kernel)
def fL_at (a0 : Int) (a1 : Int) (M : MI) : Option (Int × MI) :=
  Option.bind (f_X7_at a0 a1 M) fun o => match o with
  | .inl (k, M1) => if k = 1 then some (1, M1) else none
  | .inr (r, M1) => Option.bind (gI r 0) fun _ => Option.bind (osJ M1 48 0 r) fun M2 => some (0, M2)
set_option maxRecDepth 100000 in
set_option maxHeartbeats 4000000 in
theorem cc_L_at {l : Launch} (hl0 : l.stackTraces = false) {G : gG} {adr : Nat → Nat} {sz : Nat} (hi : adi adr) {a0 : Int} {a1 : Int} {M M' : MI} {r : Int} (h : fL_at a0 a1 M = some (r, M')) : hI l yL_at cL_at 5 (some .int) [(0, 10, 13, 19)] { frames := 9, cells := 2, slots := 12, locals := 137 } G adr [.ref (adr 0), .int (Int32.ofInt a0), .int (Int32.ofInt a1), .ref (adr 48)] (tm M) sz 2 12 r M' := by
  refine yhEnter (by decide) (Nat.le_of_ble_eq_true rfl) ?_
  intro p e s m below meth c ls cx htab hl hw hY
  obtain ⟨hx, hb, hr, hml, hown, hts, hlocks⟩ := id cx
  have hown : s.vm.findClass RL = some m.cls := hown
  have hl : lv_has ls 5 [(0, .ref (adr 0)), (1, .int (Int32.ofInt a0)), (2, .int (Int32.ofInt a1)), (3, .ref (adr 48))] := hl
  generalize wA (LL adr) (wf G adr (tm M)) sz = A at hw hY ⊢
  unfold fL_at at h
  obtain ⟨o, e1, h⟩ := bnd h
  refine lv_aload_n hx hb dL_at_0 rfl (lv_at hl 3 rfl) ?_
  refine lv_iconst (v := Int32.ofInt (0)) hx hb dL_at_1 rfl ?_
  refine lv_aload_n hx hb dL_at_2 rfl (lv_at hl 0 rfl) ?_
  refine lv_iload_n hx hb dL_at_3 rfl (lv_at hl 1 rfl) ?_
  refine lv_iload_n hx hb dL_at_4 rfl (lv_at hl 2 rfl) ?_
  refine y_callVi (k := 0) (c1 := 2) (s1 := 12) (As := [.int (Int32.ofInt a0), .int (Int32.ofInt a1)]) (rest := [.int (Int32.ofInt (0)), .ref (adr 48)]) cx.fix hi hY hw (cc_X7_at (l := l) (G := G) hl0 hi e1) (by decide) rfl rfl (w_cV 2 hts q_625 q_626 q_627 q_628 q_629 rfl rfl (by decide) (by decide)) hl.1 rfl (lv_room (Nat.le_of_ble_eq_true rfl)) dL_at_5 (by decide) rfl rfl (fun k9 M9 ce q9 H locs ho hw hce hcv hcl => ?_) (fun r9 M9 H locs ho hw => ?_)
  · subst ho
    dsimp only at h
    by_cases h1 : k9 = 1
    · subst h1
      replace h := ite_t rfl h
      cases h
      refine vx_catch (name := nAI) hown [] ⟨0, 10, 13, 19⟩ [] (by rw [htab]; rfl) (fun z h => nomatch h) (by decide) (by decide) (hts _ q_623) (va_Nw.use rfl (hY.1.2.2.2.1 (.castable nAI nAI) (by decide +kernel))) hce hcv hcl ?_
      refine lv_astore (lv' := [(4, .ref q9), (0, .ref (adr 0)), (1, .int (Int32.ofInt a0)), (2, .int (Int32.ofInt a1)), (3, .ref (adr 48))]) hx hb dL_at_13 hl (by decide) rfl (fun ls hl => ?_)
      refine lv_iconst (v := Int32.ofInt 1) hx hb dL_at_15 rfl ?_
      exact w_iret (post := fun (r9 : Int32) (u : Mem) => r9 = Int32.ofInt 1 ∧ u = tm M') (lf := fun u => (LL adr, wf G adr u)) hx hb hr hlocks (tm M') hw ⟨rfl, rfl⟩ dL_at_16
    replace h := ite_f h1 h
    cases h
  subst ho
  dsimp only at h
  obtain ⟨_, hg, h⟩ := bnd h
  obtain ⟨M2, e2, h⟩ := bnd h
  cases h
  refine o_i2l hx hb hg dL_at_8 ?_
  refine o_last hx hb hi hw e2 dL_at_9 (fun H locs hw => ?_)
  refine lv_goto (tgt := 17) hx hb dL_at_10 (by decide) ?_
  refine lv_iconst (v := Int32.ofInt 0) hx hb dL_at_17 rfl ?_
  exact w_iret (post := fun (r9 : Int32) (u : Mem) => r9 = Int32.ofInt 0 ∧ u = tm M') (lf := fun u => (LL adr, wf G adr u)) hx hb hr hlocks (tm M') hw ⟨rfl, rfl⟩ dL_at_18
theorem q_630 : Cond.methodLink RL 27 yX7_times ∈ uU := uU_in (by decide +kernel) (by decide +kernel)
theorem q_631 : Cond.instanceMethod yX7_times ∈ uU := uU_in (by decide +kernel) (by decide +kernel)
theorem q_632 : Cond.selects yX7_times.cls yX7_times yX7_times ∈ uU := uU_in (by decide +kernel) (by decide +kernel)
theorem q_633 : Cond.initialized yX7_times.cls ∈ uU := uU_in (by decide +kernel) (by decide +kernel)
theorem q_634 : Cond.code yX7_times cX7_times 3 (some .int) ∈ uU := uU_in (by decide +kernel) (by decide +kernel)
def fL_times (n : Nat) (a0 : Int) (a1 : Int) (M : MI) : Option (Int × MI) :=
  Option.bind (f_X7_times n a0 a1 M) fun o => match o with
  | .inl (k, M1) => if k = 1 then some (1, M1) else if k = 2 then some (2, M1) else if k = 3 then some (3, M1) else none
  | .inr (r, M1) => Option.bind (gI r 0) fun _ => Option.bind (osJ M1 48 0 r) fun M2 => some (0, M2)
set_option maxRecDepth 100000 in
set_option maxHeartbeats 4000000 in
theorem cc_L_times {l : Launch} (hl0 : l.stackTraces = false) {G : gG} {adr : Nat → Nat} {sz : Nat} (hi : adi adr) {n : Nat} {a0 : Int} {a1 : Int} {M M' : MI} {r : Int} (h : fL_times n a0 a1 M = some (r, M')) : hI l yL_times cL_times 5 (some .int) [(0, 10, 13, 19), (0, 10, 17, 13), (0, 10, 21, 21)] { frames := 9, cells := 4, slots := 24, locals := 137 } G adr [.ref (adr 0), .int (Int32.ofInt a0), .int (Int32.ofInt a1), .ref (adr 48)] (tm M) sz 4 24 r M' := by
  refine yhEnter (by decide) (Nat.le_of_ble_eq_true rfl) ?_
  intro p e s m below meth c ls cx htab hl hw hY
  obtain ⟨hx, hb, hr, hml, hown, hts, hlocks⟩ := id cx
  have hown : s.vm.findClass RL = some m.cls := hown
  have hl : lv_has ls 5 [(0, .ref (adr 0)), (1, .int (Int32.ofInt a0)), (2, .int (Int32.ofInt a1)), (3, .ref (adr 48))] := hl
  generalize wA (LL adr) (wf G adr (tm M)) sz = A at hw hY ⊢
  unfold fL_times at h
  obtain ⟨o, e1, h⟩ := bnd h
  refine lv_aload_n hx hb dL_times_0 rfl (lv_at hl 3 rfl) ?_
  refine lv_iconst (v := Int32.ofInt (0)) hx hb dL_times_1 rfl ?_
  refine lv_aload_n hx hb dL_times_2 rfl (lv_at hl 0 rfl) ?_
  refine lv_iload_n hx hb dL_times_3 rfl (lv_at hl 1 rfl) ?_
  refine lv_iload_n hx hb dL_times_4 rfl (lv_at hl 2 rfl) ?_
  refine y_callVi (k := 0) (c1 := 4) (s1 := 24) (As := [.int (Int32.ofInt a0), .int (Int32.ofInt a1)]) (rest := [.int (Int32.ofInt (0)), .ref (adr 48)]) cx.fix hi hY hw (cc_X7_times (l := l) (G := G) hl0 hi e1) (by decide) rfl rfl (w_cV 2 hts q_630 q_631 q_632 q_633 q_634 rfl rfl (by decide) (by decide)) hl.1 rfl (lv_room (Nat.le_of_ble_eq_true rfl)) dL_times_5 (by decide) rfl rfl (fun k9 M9 ce q9 H locs ho hw hce hcv hcl => ?_) (fun r9 M9 H locs ho hw => ?_)
  · subst ho
    dsimp only at h
    by_cases h1 : k9 = 1
    · subst h1
      replace h := ite_t rfl h
      cases h
      refine vx_catch (name := nAI) hown [] ⟨0, 10, 13, 19⟩ [⟨0, 10, 17, 13⟩, ⟨0, 10, 21, 21⟩] (by rw [htab]; rfl) (fun z h => nomatch h) (by decide) (by decide) (hts _ q_623) (va_Nw.use rfl (hY.1.2.2.2.1 (.castable nAI nAI) (by decide +kernel))) hce hcv hcl ?_
      refine lv_astore (lv' := [(4, .ref q9), (0, .ref (adr 0)), (1, .int (Int32.ofInt a0)), (2, .int (Int32.ofInt a1)), (3, .ref (adr 48))]) hx hb dL_times_13 hl (by decide) rfl (fun ls hl => ?_)
      refine lv_iconst (v := Int32.ofInt 1) hx hb dL_times_15 rfl ?_
      exact w_iret (post := fun (r9 : Int32) (u : Mem) => r9 = Int32.ofInt 1 ∧ u = tm M') (lf := fun u => (LL adr, wf G adr u)) hx hb hr hlocks (tm M') hw ⟨rfl, rfl⟩ dL_times_16
    replace h := ite_f h1 h
    by_cases h2 : k9 = 2
    · subst h2
      replace h := ite_t rfl h
      cases h
      refine vx_catch (name := nIS) hown [⟨0, 10, 13, 19⟩] ⟨0, 10, 17, 13⟩ [⟨0, 10, 21, 21⟩] (by rw [htab]; rfl) (List.forall_mem_cons.mpr ⟨Or.inr ⟨by decide, nAI, hts _ q_623, hY.1.2.2.2.2 (nIS, nAI) (by decide)⟩, fun z h => nomatch h⟩) (by decide) (by decide) (hts _ q_617) (va_Nw.use rfl (hY.1.2.2.2.1 (.castable nIS nIS) (by decide +kernel))) hce hcv hcl ?_
      refine lv_astore (lv' := [(4, .ref q9), (0, .ref (adr 0)), (1, .int (Int32.ofInt a0)), (2, .int (Int32.ofInt a1)), (3, .ref (adr 48))]) hx hb dL_times_17 hl (by decide) rfl (fun ls hl => ?_)
      refine lv_iconst (v := Int32.ofInt 2) hx hb dL_times_19 rfl ?_
      exact w_iret (post := fun (r9 : Int32) (u : Mem) => r9 = Int32.ofInt 2 ∧ u = tm M') (lf := fun u => (LL adr, wf G adr u)) hx hb hr hlocks (tm M') hw ⟨rfl, rfl⟩ dL_times_20
    replace h := ite_f h2 h
    by_cases h3 : k9 = 3
    · subst h3
      replace h := ite_t rfl h
      cases h
      refine vx_catch (name := nIA) hown [⟨0, 10, 13, 19⟩, ⟨0, 10, 17, 13⟩] ⟨0, 10, 21, 21⟩ [] (by rw [htab]; rfl) (List.forall_mem_cons.mpr ⟨Or.inr ⟨by decide, nAI, hts _ q_623, hY.1.2.2.2.2 (nIA, nAI) (by decide)⟩, List.forall_mem_cons.mpr ⟨Or.inr ⟨by decide, nIS, hts _ q_617, hY.1.2.2.2.2 (nIA, nIS) (by decide)⟩, fun z h => nomatch h⟩⟩) (by decide) (by decide) (hts _ q_624) (va_Nw.use rfl (hY.1.2.2.2.1 (.castable nIA nIA) (by decide +kernel))) hce hcv hcl ?_
      refine lv_astore (lv' := [(4, .ref q9), (0, .ref (adr 0)), (1, .int (Int32.ofInt a0)), (2, .int (Int32.ofInt a1)), (3, .ref (adr 48))]) hx hb dL_times_21 hl (by decide) rfl (fun ls hl => ?_)
      refine lv_iconst (v := Int32.ofInt 3) hx hb dL_times_23 rfl ?_
      exact w_iret (post := fun (r9 : Int32) (u : Mem) => r9 = Int32.ofInt 3 ∧ u = tm M') (lf := fun u => (LL adr, wf G adr u)) hx hb hr hlocks (tm M') hw ⟨rfl, rfl⟩ dL_times_24
    replace h := ite_f h3 h
    cases h
  subst ho
  dsimp only at h
  obtain ⟨_, hg, h⟩ := bnd h
  obtain ⟨M2, e2, h⟩ := bnd h
  cases h
  refine o_i2l hx hb hg dL_times_8 ?_
  refine o_last hx hb hi hw e2 dL_times_9 (fun H locs hw => ?_)
  refine lv_goto (tgt := 25) hx hb dL_times_10 (by decide) ?_
  refine lv_iconst (v := Int32.ofInt 0) hx hb dL_times_25 rfl ?_
  exact w_iret (post := fun (r9 : Int32) (u : Mem) => r9 = Int32.ofInt 0 ∧ u = tm M') (lf := fun u => (LL adr, wf G adr u)) hx hb hr hlocks (tm M') hw ⟨rfl, rfl⟩ dL_times_26
theorem q_635 : Cond.methodLink RL 30 yX7_over ∈ uU := uU_in (by decide +kernel) (by decide +kernel)
theorem q_636 : Cond.instanceMethod yX7_over ∈ uU := uU_in (by decide +kernel) (by decide +kernel)
theorem q_637 : Cond.selects yX7_over.cls yX7_over yX7_over ∈ uU := uU_in (by decide +kernel) (by decide +kernel)
theorem q_638 : Cond.initialized yX7_over.cls ∈ uU := uU_in (by decide +kernel) (by decide +kernel)
theorem q_639 : Cond.code yX7_over cX7_over 3 (some .int) ∈ uU := uU_in (by decide +kernel) (by decide +kernel)
theorem q_640 : Cond.classLink RL 33 nAR ∈ uU := uU_in (by decide +kernel) (by decide +kernel)
def fL_over (n : Nat) (a0 : Int) (a1 : Int) (M : MI) : Option (Int × MI) :=
  Option.bind (f_X7_over n a0 a1 M) fun o => match o with
  | .inl (k, M1) => if k = 1 then some (1, M1) else if k = 2 then some (2, M1) else if k = 4 then some (3, M1) else none
  | .inr (r, M1) => Option.bind (gI r 0) fun _ => Option.bind (osJ M1 48 0 r) fun M2 => some (0, M2)
set_option maxRecDepth 100000 in
set_option maxHeartbeats 4000000 in
theorem cc_L_over {l : Launch} (hl0 : l.stackTraces = false) {G : gG} {adr : Nat → Nat} {sz : Nat} (hi : adi adr) {n : Nat} {a0 : Int} {a1 : Int} {M M' : MI} {r : Int} (h : fL_over n a0 a1 M = some (r, M')) : hI l yL_over cL_over 5 (some .int) [(0, 10, 13, 19), (0, 10, 17, 13), (0, 10, 21, 33)] { frames := 9, cells := 4, slots := 24, locals := 137 } G adr [.ref (adr 0), .int (Int32.ofInt a0), .int (Int32.ofInt a1), .ref (adr 48)] (tm M) sz 4 24 r M' := by
  refine yhEnter (by decide) (Nat.le_of_ble_eq_true rfl) ?_
  intro p e s m below meth c ls cx htab hl hw hY
  obtain ⟨hx, hb, hr, hml, hown, hts, hlocks⟩ := id cx
  have hown : s.vm.findClass RL = some m.cls := hown
  have hl : lv_has ls 5 [(0, .ref (adr 0)), (1, .int (Int32.ofInt a0)), (2, .int (Int32.ofInt a1)), (3, .ref (adr 48))] := hl
  generalize wA (LL adr) (wf G adr (tm M)) sz = A at hw hY ⊢
  unfold fL_over at h
  obtain ⟨o, e1, h⟩ := bnd h
  refine lv_aload_n hx hb dL_over_0 rfl (lv_at hl 3 rfl) ?_
  refine lv_iconst (v := Int32.ofInt (0)) hx hb dL_over_1 rfl ?_
  refine lv_aload_n hx hb dL_over_2 rfl (lv_at hl 0 rfl) ?_
  refine lv_iload_n hx hb dL_over_3 rfl (lv_at hl 1 rfl) ?_
  refine lv_iload_n hx hb dL_over_4 rfl (lv_at hl 2 rfl) ?_
  refine y_callVi (k := 0) (c1 := 4) (s1 := 24) (As := [.int (Int32.ofInt a0), .int (Int32.ofInt a1)]) (rest := [.int (Int32.ofInt (0)), .ref (adr 48)]) cx.fix hi hY hw (cc_X7_over (l := l) (G := G) hl0 hi e1) (by decide) rfl rfl (w_cV 2 hts q_635 q_636 q_637 q_638 q_639 rfl rfl (by decide) (by decide)) hl.1 rfl (lv_room (Nat.le_of_ble_eq_true rfl)) dL_over_5 (by decide) rfl rfl (fun k9 M9 ce q9 H locs ho hw hce hcv hcl => ?_) (fun r9 M9 H locs ho hw => ?_)
  · subst ho
    dsimp only at h
    by_cases h1 : k9 = 1
    · subst h1
      replace h := ite_t rfl h
      cases h
      refine vx_catch (name := nAI) hown [] ⟨0, 10, 13, 19⟩ [⟨0, 10, 17, 13⟩, ⟨0, 10, 21, 33⟩] (by rw [htab]; rfl) (fun z h => nomatch h) (by decide) (by decide) (hts _ q_623) (va_Nw.use rfl (hY.1.2.2.2.1 (.castable nAI nAI) (by decide +kernel))) hce hcv hcl ?_
      refine lv_astore (lv' := [(4, .ref q9), (0, .ref (adr 0)), (1, .int (Int32.ofInt a0)), (2, .int (Int32.ofInt a1)), (3, .ref (adr 48))]) hx hb dL_over_13 hl (by decide) rfl (fun ls hl => ?_)
      refine lv_iconst (v := Int32.ofInt 1) hx hb dL_over_15 rfl ?_
      exact w_iret (post := fun (r9 : Int32) (u : Mem) => r9 = Int32.ofInt 1 ∧ u = tm M') (lf := fun u => (LL adr, wf G adr u)) hx hb hr hlocks (tm M') hw ⟨rfl, rfl⟩ dL_over_16
    replace h := ite_f h1 h
    by_cases h2 : k9 = 2
    · subst h2
      replace h := ite_t rfl h
      cases h
      refine vx_catch (name := nIS) hown [⟨0, 10, 13, 19⟩] ⟨0, 10, 17, 13⟩ [⟨0, 10, 21, 33⟩] (by rw [htab]; rfl) (List.forall_mem_cons.mpr ⟨Or.inr ⟨by decide, nAI, hts _ q_623, hY.1.2.2.2.2 (nIS, nAI) (by decide)⟩, fun z h => nomatch h⟩) (by decide) (by decide) (hts _ q_617) (va_Nw.use rfl (hY.1.2.2.2.1 (.castable nIS nIS) (by decide +kernel))) hce hcv hcl ?_
      refine lv_astore (lv' := [(4, .ref q9), (0, .ref (adr 0)), (1, .int (Int32.ofInt a0)), (2, .int (Int32.ofInt a1)), (3, .ref (adr 48))]) hx hb dL_over_17 hl (by decide) rfl (fun ls hl => ?_)
      refine lv_iconst (v := Int32.ofInt 2) hx hb dL_over_19 rfl ?_
      exact w_iret (post := fun (r9 : Int32) (u : Mem) => r9 = Int32.ofInt 2 ∧ u = tm M') (lf := fun u => (LL adr, wf G adr u)) hx hb hr hlocks (tm M') hw ⟨rfl, rfl⟩ dL_over_20
    replace h := ite_f h2 h
    by_cases h4 : k9 = 4
    · subst h4
      replace h := ite_t rfl h
      cases h
      refine vx_catch (name := nAR) hown [⟨0, 10, 13, 19⟩, ⟨0, 10, 17, 13⟩] ⟨0, 10, 21, 33⟩ [] (by rw [htab]; rfl) (List.forall_mem_cons.mpr ⟨Or.inr ⟨by decide, nAI, hts _ q_623, hY.1.2.2.2.2 (nAR, nAI) (by decide)⟩, List.forall_mem_cons.mpr ⟨Or.inr ⟨by decide, nIS, hts _ q_617, hY.1.2.2.2.2 (nAR, nIS) (by decide)⟩, fun z h => nomatch h⟩⟩) (by decide) (by decide) (hts _ q_640) (va_Nw.use rfl (hY.1.2.2.2.1 (.castable nAR nAR) (by decide +kernel))) hce hcv hcl ?_
      refine lv_astore (lv' := [(4, .ref q9), (0, .ref (adr 0)), (1, .int (Int32.ofInt a0)), (2, .int (Int32.ofInt a1)), (3, .ref (adr 48))]) hx hb dL_over_21 hl (by decide) rfl (fun ls hl => ?_)
      refine lv_iconst (v := Int32.ofInt 3) hx hb dL_over_23 rfl ?_
      exact w_iret (post := fun (r9 : Int32) (u : Mem) => r9 = Int32.ofInt 3 ∧ u = tm M') (lf := fun u => (LL adr, wf G adr u)) hx hb hr hlocks (tm M') hw ⟨rfl, rfl⟩ dL_over_24
    replace h := ite_f h4 h
    cases h
  subst ho
  dsimp only at h
  obtain ⟨_, hg, h⟩ := bnd h
  obtain ⟨M2, e2, h⟩ := bnd h
  cases h
  refine o_i2l hx hb hg dL_over_8 ?_
  refine o_last hx hb hi hw e2 dL_over_9 (fun H locs hw => ?_)
  refine lv_goto (tgt := 25) hx hb dL_over_10 (by decide) ?_
  refine lv_iconst (v := Int32.ofInt 0) hx hb dL_over_25 rfl ?_
  exact w_iret (post := fun (r9 : Int32) (u : Mem) => r9 = Int32.ofInt 0 ∧ u = tm M') (lf := fun u => (LL adr, wf G adr u)) hx hb hr hlocks (tm M') hw ⟨rfl, rfl⟩ dL_over_26
theorem q_641 : Cond.methodLink RL 35 yX7_gcd ∈ uU := uU_in (by decide +kernel) (by decide +kernel)
theorem q_642 : Cond.instanceMethod yX7_gcd ∈ uU := uU_in (by decide +kernel) (by decide +kernel)
theorem q_643 : Cond.selects yX7_gcd.cls yX7_gcd yX7_gcd ∈ uU := uU_in (by decide +kernel) (by decide +kernel)
theorem q_644 : Cond.initialized yX7_gcd.cls ∈ uU := uU_in (by decide +kernel) (by decide +kernel)
theorem q_645 : Cond.code yX7_gcd cX7_gcd 3 (some .int) ∈ uU := uU_in (by decide +kernel) (by decide +kernel)
def fL_gcd (n : Nat) (a0 : Int) (a1 : Int) (M : MI) : Option (Int × MI) :=
  Option.bind (f_X7_gcd n a0 a1 M) fun o => match o with
  | .inl (k, M1) => if k = 1 then some (1, M1) else if k = 2 then some (2, M1) else none
  | .inr (r, M1) => Option.bind (gI r 0) fun _ => Option.bind (osJ M1 48 0 r) fun M2 => some (0, M2)
set_option maxRecDepth 100000 in
set_option maxHeartbeats 4000000 in
theorem cc_L_gcd {l : Launch} (hl0 : l.stackTraces = false) {G : gG} {adr : Nat → Nat} {sz : Nat} (hi : adi adr) {n : Nat} {a0 : Int} {a1 : Int} {M M' : MI} {r : Int} (h : fL_gcd n a0 a1 M = some (r, M')) : hI l yL_gcd cL_gcd 5 (some .int) [(0, 10, 13, 19), (0, 10, 17, 13)] { frames := 9, cells := 3, slots := 18, locals := 161 } G adr [.ref (adr 0), .int (Int32.ofInt a0), .int (Int32.ofInt a1), .ref (adr 48)] (tm M) sz 3 18 r M' := by
  refine yhEnter (by decide) (Nat.le_of_ble_eq_true rfl) ?_
  intro p e s m below meth c ls cx htab hl hw hY
  obtain ⟨hx, hb, hr, hml, hown, hts, hlocks⟩ := id cx
  have hown : s.vm.findClass RL = some m.cls := hown
  have hl : lv_has ls 5 [(0, .ref (adr 0)), (1, .int (Int32.ofInt a0)), (2, .int (Int32.ofInt a1)), (3, .ref (adr 48))] := hl
  generalize wA (LL adr) (wf G adr (tm M)) sz = A at hw hY ⊢
  unfold fL_gcd at h
  obtain ⟨o, e1, h⟩ := bnd h
  refine lv_aload_n hx hb dL_gcd_0 rfl (lv_at hl 3 rfl) ?_
  refine lv_iconst (v := Int32.ofInt (0)) hx hb dL_gcd_1 rfl ?_
  refine lv_aload_n hx hb dL_gcd_2 rfl (lv_at hl 0 rfl) ?_
  refine lv_iload_n hx hb dL_gcd_3 rfl (lv_at hl 1 rfl) ?_
  refine lv_iload_n hx hb dL_gcd_4 rfl (lv_at hl 2 rfl) ?_
  refine y_callVi (k := 0) (c1 := 3) (s1 := 18) (As := [.int (Int32.ofInt a0), .int (Int32.ofInt a1)]) (rest := [.int (Int32.ofInt (0)), .ref (adr 48)]) cx.fix hi hY hw (cc_X7_gcd (l := l) (G := G) hl0 hi e1) (by decide) rfl rfl (w_cV 2 hts q_641 q_642 q_643 q_644 q_645 rfl rfl (by decide) (by decide)) hl.1 rfl (lv_room (Nat.le_of_ble_eq_true rfl)) dL_gcd_5 (by decide) rfl rfl (fun k9 M9 ce q9 H locs ho hw hce hcv hcl => ?_) (fun r9 M9 H locs ho hw => ?_)
  · subst ho
    dsimp only at h
    by_cases h1 : k9 = 1
    · subst h1
      replace h := ite_t rfl h
      cases h
      refine vx_catch (name := nAI) hown [] ⟨0, 10, 13, 19⟩ [⟨0, 10, 17, 13⟩] (by rw [htab]; rfl) (fun z h => nomatch h) (by decide) (by decide) (hts _ q_623) (va_Nw.use rfl (hY.1.2.2.2.1 (.castable nAI nAI) (by decide +kernel))) hce hcv hcl ?_
      refine lv_astore (lv' := [(4, .ref q9), (0, .ref (adr 0)), (1, .int (Int32.ofInt a0)), (2, .int (Int32.ofInt a1)), (3, .ref (adr 48))]) hx hb dL_gcd_13 hl (by decide) rfl (fun ls hl => ?_)
      refine lv_iconst (v := Int32.ofInt 1) hx hb dL_gcd_15 rfl ?_
      exact w_iret (post := fun (r9 : Int32) (u : Mem) => r9 = Int32.ofInt 1 ∧ u = tm M') (lf := fun u => (LL adr, wf G adr u)) hx hb hr hlocks (tm M') hw ⟨rfl, rfl⟩ dL_gcd_16
    replace h := ite_f h1 h
    by_cases h2 : k9 = 2
    · subst h2
      replace h := ite_t rfl h
      cases h
      refine vx_catch (name := nIS) hown [⟨0, 10, 13, 19⟩] ⟨0, 10, 17, 13⟩ [] (by rw [htab]; rfl) (List.forall_mem_cons.mpr ⟨Or.inr ⟨by decide, nAI, hts _ q_623, hY.1.2.2.2.2 (nIS, nAI) (by decide)⟩, fun z h => nomatch h⟩) (by decide) (by decide) (hts _ q_617) (va_Nw.use rfl (hY.1.2.2.2.1 (.castable nIS nIS) (by decide +kernel))) hce hcv hcl ?_
      refine lv_astore (lv' := [(4, .ref q9), (0, .ref (adr 0)), (1, .int (Int32.ofInt a0)), (2, .int (Int32.ofInt a1)), (3, .ref (adr 48))]) hx hb dL_gcd_17 hl (by decide) rfl (fun ls hl => ?_)
      refine lv_iconst (v := Int32.ofInt 2) hx hb dL_gcd_19 rfl ?_
      exact w_iret (post := fun (r9 : Int32) (u : Mem) => r9 = Int32.ofInt 2 ∧ u = tm M') (lf := fun u => (LL adr, wf G adr u)) hx hb hr hlocks (tm M') hw ⟨rfl, rfl⟩ dL_gcd_20
    replace h := ite_f h2 h
    cases h
  subst ho
  dsimp only at h
  obtain ⟨_, hg, h⟩ := bnd h
  obtain ⟨M2, e2, h⟩ := bnd h
  cases h
  refine o_i2l hx hb hg dL_gcd_8 ?_
  refine o_last hx hb hi hw e2 dL_gcd_9 (fun H locs hw => ?_)
  refine lv_goto (tgt := 21) hx hb dL_gcd_10 (by decide) ?_
  refine lv_iconst (v := Int32.ofInt 0) hx hb dL_gcd_21 rfl ?_
  exact w_iret (post := fun (r9 : Int32) (u : Mem) => r9 = Int32.ofInt 0 ∧ u = tm M') (lf := fun u => (LL adr, wf G adr u)) hx hb hr hlocks (tm M') hw ⟨rfl, rfl⟩ dL_gcd_22
theorem q_646 : Cond.methodLink RL 38 yX7_run ∈ uU := uU_in (by decide +kernel) (by decide +kernel)
theorem q_647 : Cond.instanceMethod yX7_run ∈ uU := uU_in (by decide +kernel) (by decide +kernel)
theorem q_648 : Cond.selects yX7_run.cls yX7_run yX7_run ∈ uU := uU_in (by decide +kernel) (by decide +kernel)
theorem q_649 : Cond.initialized yX7_run.cls ∈ uU := uU_in (by decide +kernel) (by decide +kernel)
theorem q_650 : Cond.code yX7_run cX7_run 4 (some .int) ∈ uU := uU_in (by decide +kernel) (by decide +kernel)
def fL_run (n : Nat) (a0 : Int) (M : MI) : Option (Int × MI) :=
  Option.bind (f_X7_run n a0 M) fun o => match o with
  | .inl (k, M1) => if k = 1 then some (1, M1) else if k = 2 then some (2, M1) else none
  | .inr (r, M1) => Option.bind (gI r 0) fun _ => Option.bind (osJ M1 48 0 r) fun M2 => some (0, M2)
set_option maxRecDepth 100000 in
set_option maxHeartbeats 4000000 in
theorem cc_L_run {l : Launch} (hl0 : l.stackTraces = false) {G : gG} {adr : Nat → Nat} {sz : Nat} (hi : adi adr) {n : Nat} {a0 : Int} {M M' : MI} {r : Int} (h : fL_run n a0 M = some (r, M')) : hI l yL_run cL_run 4 (some .int) [(0, 9, 12, 19), (0, 9, 15, 13)] { frames := 9, cells := 2, slots := 12, locals := 204 } G adr [.ref (adr 0), .int (Int32.ofInt a0), .ref (adr 48)] (tm M) sz 2 12 r M' := by
  refine yhEnter (by decide) (Nat.le_of_ble_eq_true rfl) ?_
  intro p e s m below meth c ls cx htab hl hw hY
  obtain ⟨hx, hb, hr, hml, hown, hts, hlocks⟩ := id cx
  have hown : s.vm.findClass RL = some m.cls := hown
  have hl : lv_has ls 4 [(0, .ref (adr 0)), (1, .int (Int32.ofInt a0)), (2, .ref (adr 48))] := hl
  generalize wA (LL adr) (wf G adr (tm M)) sz = A at hw hY ⊢
  unfold fL_run at h
  obtain ⟨o, e1, h⟩ := bnd h
  refine lv_aload_n hx hb dL_run_0 rfl (lv_at hl 2 rfl) ?_
  refine lv_iconst (v := Int32.ofInt (0)) hx hb dL_run_1 rfl ?_
  refine lv_aload_n hx hb dL_run_2 rfl (lv_at hl 0 rfl) ?_
  refine lv_iload_n hx hb dL_run_3 rfl (lv_at hl 1 rfl) ?_
  refine y_callVi (k := 0) (c1 := 2) (s1 := 12) (As := [.int (Int32.ofInt a0)]) (rest := [.int (Int32.ofInt (0)), .ref (adr 48)]) cx.fix hi hY hw (cc_X7_run (l := l) (G := G) hl0 hi e1) (by decide) rfl rfl (w_cV 1 hts q_646 q_647 q_648 q_649 q_650 rfl rfl (by decide) (by decide)) hl.1 rfl (lv_room (Nat.le_of_ble_eq_true rfl)) dL_run_4 (by decide) rfl rfl (fun k9 M9 ce q9 H locs ho hw hce hcv hcl => ?_) (fun r9 M9 H locs ho hw => ?_)
  · subst ho
    dsimp only at h
    by_cases h1 : k9 = 1
    · subst h1
      replace h := ite_t rfl h
      cases h
      refine vx_catch (name := nAI) hown [] ⟨0, 9, 12, 19⟩ [⟨0, 9, 15, 13⟩] (by rw [htab]; rfl) (fun z h => nomatch h) (by decide) (by decide) (hts _ q_623) (va_Nw.use rfl (hY.1.2.2.2.1 (.castable nAI nAI) (by decide +kernel))) hce hcv hcl ?_
      refine lv_astore_n (lv' := [(3, .ref q9), (0, .ref (adr 0)), (1, .int (Int32.ofInt a0)), (2, .ref (adr 48))]) hx hb dL_run_12 rfl hl (by decide) rfl (fun ls hl => ?_)
      refine lv_iconst (v := Int32.ofInt 1) hx hb dL_run_13 rfl ?_
      exact w_iret (post := fun (r9 : Int32) (u : Mem) => r9 = Int32.ofInt 1 ∧ u = tm M') (lf := fun u => (LL adr, wf G adr u)) hx hb hr hlocks (tm M') hw ⟨rfl, rfl⟩ dL_run_14
    replace h := ite_f h1 h
    by_cases h2 : k9 = 2
    · subst h2
      replace h := ite_t rfl h
      cases h
      refine vx_catch (name := nIS) hown [⟨0, 9, 12, 19⟩] ⟨0, 9, 15, 13⟩ [] (by rw [htab]; rfl) (List.forall_mem_cons.mpr ⟨Or.inr ⟨by decide, nAI, hts _ q_623, hY.1.2.2.2.2 (nIS, nAI) (by decide)⟩, fun z h => nomatch h⟩) (by decide) (by decide) (hts _ q_617) (va_Nw.use rfl (hY.1.2.2.2.1 (.castable nIS nIS) (by decide +kernel))) hce hcv hcl ?_
      refine lv_astore_n (lv' := [(3, .ref q9), (0, .ref (adr 0)), (1, .int (Int32.ofInt a0)), (2, .ref (adr 48))]) hx hb dL_run_15 rfl hl (by decide) rfl (fun ls hl => ?_)
      refine lv_iconst (v := Int32.ofInt 2) hx hb dL_run_16 rfl ?_
      exact w_iret (post := fun (r9 : Int32) (u : Mem) => r9 = Int32.ofInt 2 ∧ u = tm M') (lf := fun u => (LL adr, wf G adr u)) hx hb hr hlocks (tm M') hw ⟨rfl, rfl⟩ dL_run_17
    replace h := ite_f h2 h
    cases h
  subst ho
  dsimp only at h
  obtain ⟨_, hg, h⟩ := bnd h
  obtain ⟨M2, e2, h⟩ := bnd h
  cases h
  refine o_i2l hx hb hg dL_run_7 ?_
  refine o_last hx hb hi hw e2 dL_run_8 (fun H locs hw => ?_)
  refine lv_goto (tgt := 18) hx hb dL_run_9 (by decide) ?_
  refine lv_iconst (v := Int32.ofInt 0) hx hb dL_run_18 rfl ?_
  exact w_iret (post := fun (r9 : Int32) (u : Mem) => r9 = Int32.ofInt 0 ∧ u = tm M') (lf := fun u => (LL adr, wf G adr u)) hx hb hr hlocks (tm M') hw ⟨rfl, rfl⟩ dL_run_19
theorem q_651 : Cond.methodLink RL 42 yX7_factor ∈ uU := uU_in (by decide +kernel) (by decide +kernel)
theorem q_652 : Cond.instanceMethod yX7_factor ∈ uU := uU_in (by decide +kernel) (by decide +kernel)
theorem q_653 : Cond.selects yX7_factor.cls yX7_factor yX7_factor ∈ uU := uU_in (by decide +kernel) (by decide +kernel)
theorem q_654 : Cond.initialized yX7_factor.cls ∈ uU := uU_in (by decide +kernel) (by decide +kernel)
theorem q_655 : Cond.code yX7_factor cX7_factor 2 (some .int) ∈ uU := uU_in (by decide +kernel) (by decide +kernel)
def fL_factor (a0 : Int) (M : MI) : Option (Int × MI) :=
  Option.bind (f_X7_factor a0 M) fun o => match o with
  | .inl (k, M1) => if k = 1 then some (1, M1) else none
  | .inr (r, M1) => Option.bind (gI r 0) fun _ => Option.bind (osJ M1 48 0 r) fun M2 => some (0, M2)
set_option maxRecDepth 100000 in
set_option maxHeartbeats 4000000 in
theorem cc_L_factor {l : Launch} (hl0 : l.stackTraces = false) {G : gG} {adr : Nat → Nat} {sz : Nat} (hi : adi adr) {a0 : Int} {M M' : MI} {r : Int} (h : fL_factor a0 M = some (r, M')) : hI l yL_factor cL_factor 4 (some .int) [(0, 9, 12, 19)] { frames := 9, cells := 1, slots := 6, locals := 137 } G adr [.ref (adr 0), .int (Int32.ofInt a0), .ref (adr 48)] (tm M) sz 1 6 r M' := by
  refine yhEnter (by decide) (Nat.le_of_ble_eq_true rfl) ?_
  intro p e s m below meth c ls cx htab hl hw hY
  obtain ⟨hx, hb, hr, hml, hown, hts, hlocks⟩ := id cx
  have hown : s.vm.findClass RL = some m.cls := hown
  have hl : lv_has ls 4 [(0, .ref (adr 0)), (1, .int (Int32.ofInt a0)), (2, .ref (adr 48))] := hl
  generalize wA (LL adr) (wf G adr (tm M)) sz = A at hw hY ⊢
  unfold fL_factor at h
  obtain ⟨o, e1, h⟩ := bnd h
  refine lv_aload_n hx hb dL_factor_0 rfl (lv_at hl 2 rfl) ?_
  refine lv_iconst (v := Int32.ofInt (0)) hx hb dL_factor_1 rfl ?_
  refine lv_aload_n hx hb dL_factor_2 rfl (lv_at hl 0 rfl) ?_
  refine lv_iload_n hx hb dL_factor_3 rfl (lv_at hl 1 rfl) ?_
  refine y_callVi (k := 0) (c1 := 1) (s1 := 6) (As := [.int (Int32.ofInt a0)]) (rest := [.int (Int32.ofInt (0)), .ref (adr 48)]) cx.fix hi hY hw (cc_X7_factor (l := l) (G := G) hl0 hi e1) (by decide) rfl rfl (w_cV 1 hts q_651 q_652 q_653 q_654 q_655 rfl rfl (by decide) (by decide)) hl.1 rfl (lv_room (Nat.le_of_ble_eq_true rfl)) dL_factor_4 (by decide) rfl rfl (fun k9 M9 ce q9 H locs ho hw hce hcv hcl => ?_) (fun r9 M9 H locs ho hw => ?_)
  · subst ho
    dsimp only at h
    by_cases h1 : k9 = 1
    · subst h1
      replace h := ite_t rfl h
      cases h
      refine vx_catch (name := nAI) hown [] ⟨0, 9, 12, 19⟩ [] (by rw [htab]; rfl) (fun z h => nomatch h) (by decide) (by decide) (hts _ q_623) (va_Nw.use rfl (hY.1.2.2.2.1 (.castable nAI nAI) (by decide +kernel))) hce hcv hcl ?_
      refine lv_astore_n (lv' := [(3, .ref q9), (0, .ref (adr 0)), (1, .int (Int32.ofInt a0)), (2, .ref (adr 48))]) hx hb dL_factor_12 rfl hl (by decide) rfl (fun ls hl => ?_)
      refine lv_iconst (v := Int32.ofInt 1) hx hb dL_factor_13 rfl ?_
      exact w_iret (post := fun (r9 : Int32) (u : Mem) => r9 = Int32.ofInt 1 ∧ u = tm M') (lf := fun u => (LL adr, wf G adr u)) hx hb hr hlocks (tm M') hw ⟨rfl, rfl⟩ dL_factor_14
    replace h := ite_f h1 h
    cases h
  subst ho
  dsimp only at h
  obtain ⟨_, hg, h⟩ := bnd h
  obtain ⟨M2, e2, h⟩ := bnd h
  cases h
  refine o_i2l hx hb hg dL_factor_7 ?_
  refine o_last hx hb hi hw e2 dL_factor_8 (fun H locs hw => ?_)
  refine lv_goto (tgt := 15) hx hb dL_factor_9 (by decide) ?_
  refine lv_iconst (v := Int32.ofInt 0) hx hb dL_factor_15 rfl ?_
  exact w_iret (post := fun (r9 : Int32) (u : Mem) => r9 = Int32.ofInt 0 ∧ u = tm M') (lf := fun u => (LL adr, wf G adr u)) hx hb hr hlocks (tm M') hw ⟨rfl, rfl⟩ dL_factor_16
theorem q_656 : Cond.methodLink RL 45 yX7_multiplicity ∈ uU := uU_in (by decide +kernel) (by decide +kernel)
theorem q_657 : Cond.instanceMethod yX7_multiplicity ∈ uU := uU_in (by decide +kernel) (by decide +kernel)
theorem q_658 : Cond.selects yX7_multiplicity.cls yX7_multiplicity yX7_multiplicity ∈ uU := uU_in (by decide +kernel) (by decide +kernel)
theorem q_659 : Cond.initialized yX7_multiplicity.cls ∈ uU := uU_in (by decide +kernel) (by decide +kernel)
theorem q_660 : Cond.code yX7_multiplicity cX7_multiplicity 2 (some .int) ∈ uU := uU_in (by decide +kernel) (by decide +kernel)
def fL_multiplicity (a0 : Int) (M : MI) : Option (Int × MI) :=
  Option.bind (f_X7_multiplicity a0 M) fun o => match o with
  | .inl (k, M1) => if k = 1 then some (1, M1) else none
  | .inr (r, M1) => Option.bind (gI r 0) fun _ => Option.bind (osJ M1 48 0 r) fun M2 => some (0, M2)
set_option maxRecDepth 100000 in
set_option maxHeartbeats 4000000 in
theorem cc_L_multiplicity {l : Launch} (hl0 : l.stackTraces = false) {G : gG} {adr : Nat → Nat} {sz : Nat} (hi : adi adr) {a0 : Int} {M M' : MI} {r : Int} (h : fL_multiplicity a0 M = some (r, M')) : hI l yL_multiplicity cL_multiplicity 4 (some .int) [(0, 9, 12, 19)] { frames := 9, cells := 1, slots := 6, locals := 137 } G adr [.ref (adr 0), .int (Int32.ofInt a0), .ref (adr 48)] (tm M) sz 1 6 r M' := by
  refine yhEnter (by decide) (Nat.le_of_ble_eq_true rfl) ?_
  intro p e s m below meth c ls cx htab hl hw hY
  obtain ⟨hx, hb, hr, hml, hown, hts, hlocks⟩ := id cx
  have hown : s.vm.findClass RL = some m.cls := hown
  have hl : lv_has ls 4 [(0, .ref (adr 0)), (1, .int (Int32.ofInt a0)), (2, .ref (adr 48))] := hl
  generalize wA (LL adr) (wf G adr (tm M)) sz = A at hw hY ⊢
  unfold fL_multiplicity at h
  obtain ⟨o, e1, h⟩ := bnd h
  refine lv_aload_n hx hb dL_multiplicity_0 rfl (lv_at hl 2 rfl) ?_
  refine lv_iconst (v := Int32.ofInt (0)) hx hb dL_multiplicity_1 rfl ?_
  refine lv_aload_n hx hb dL_multiplicity_2 rfl (lv_at hl 0 rfl) ?_
  refine lv_iload_n hx hb dL_multiplicity_3 rfl (lv_at hl 1 rfl) ?_
  refine y_callVi (k := 0) (c1 := 1) (s1 := 6) (As := [.int (Int32.ofInt a0)]) (rest := [.int (Int32.ofInt (0)), .ref (adr 48)]) cx.fix hi hY hw (cc_X7_multiplicity (l := l) (G := G) hl0 hi e1) (by decide) rfl rfl (w_cV 1 hts q_656 q_657 q_658 q_659 q_660 rfl rfl (by decide) (by decide)) hl.1 rfl (lv_room (Nat.le_of_ble_eq_true rfl)) dL_multiplicity_4 (by decide) rfl rfl (fun k9 M9 ce q9 H locs ho hw hce hcv hcl => ?_) (fun r9 M9 H locs ho hw => ?_)
  · subst ho
    dsimp only at h
    by_cases h1 : k9 = 1
    · subst h1
      replace h := ite_t rfl h
      cases h
      refine vx_catch (name := nAI) hown [] ⟨0, 9, 12, 19⟩ [] (by rw [htab]; rfl) (fun z h => nomatch h) (by decide) (by decide) (hts _ q_623) (va_Nw.use rfl (hY.1.2.2.2.1 (.castable nAI nAI) (by decide +kernel))) hce hcv hcl ?_
      refine lv_astore_n (lv' := [(3, .ref q9), (0, .ref (adr 0)), (1, .int (Int32.ofInt a0)), (2, .ref (adr 48))]) hx hb dL_multiplicity_12 rfl hl (by decide) rfl (fun ls hl => ?_)
      refine lv_iconst (v := Int32.ofInt 1) hx hb dL_multiplicity_13 rfl ?_
      exact w_iret (post := fun (r9 : Int32) (u : Mem) => r9 = Int32.ofInt 1 ∧ u = tm M') (lf := fun u => (LL adr, wf G adr u)) hx hb hr hlocks (tm M') hw ⟨rfl, rfl⟩ dL_multiplicity_14
    replace h := ite_f h1 h
    cases h
  subst ho
  dsimp only at h
  obtain ⟨_, hg, h⟩ := bnd h
  obtain ⟨M2, e2, h⟩ := bnd h
  cases h
  refine o_i2l hx hb hg dL_multiplicity_7 ?_
  refine o_last hx hb hi hw e2 dL_multiplicity_8 (fun H locs hw => ?_)
  refine lv_goto (tgt := 15) hx hb dL_multiplicity_9 (by decide) ?_
  refine lv_iconst (v := Int32.ofInt 0) hx hb dL_multiplicity_15 rfl ?_
  exact w_iret (post := fun (r9 : Int32) (u : Mem) => r9 = Int32.ofInt 0 ∧ u = tm M') (lf := fun u => (LL adr, wf G adr u)) hx hb hr hlocks (tm M') hw ⟨rfl, rfl⟩ dL_multiplicity_16
theorem q_661 : Cond.methodLink RL 48 yX7_content ∈ uU := uU_in (by decide +kernel) (by decide +kernel)
theorem q_662 : Cond.instanceMethod yX7_content ∈ uU := uU_in (by decide +kernel) (by decide +kernel)
theorem q_663 : Cond.selects yX7_content.cls yX7_content yX7_content ∈ uU := uU_in (by decide +kernel) (by decide +kernel)
theorem q_664 : Cond.initialized yX7_content.cls ∈ uU := uU_in (by decide +kernel) (by decide +kernel)
theorem q_665 : Cond.code yX7_content cX7_content 2 (some .int) ∈ uU := uU_in (by decide +kernel) (by decide +kernel)
def fL_content (n : Nat) (a0 : Int) (M : MI) : Option (Int × MI) :=
  Option.bind (f_X7_content n a0 M) fun o => match o with
  | .inl (k, M1) => if k = 1 then some (1, M1) else none
  | .inr (r, M1) => Option.bind (gI r 0) fun _ => Option.bind (osJ M1 48 0 r) fun M2 => some (0, M2)
set_option maxRecDepth 100000 in
set_option maxHeartbeats 4000000 in
theorem cc_L_content {l : Launch} (hl0 : l.stackTraces = false) {G : gG} {adr : Nat → Nat} {sz : Nat} (hi : adi adr) {n : Nat} {a0 : Int} {M M' : MI} {r : Int} (h : fL_content n a0 M = some (r, M')) : hI l yL_content cL_content 4 (some .int) [(0, 9, 12, 19)] { frames := 9, cells := 1, slots := 6, locals := 136 } G adr [.ref (adr 0), .int (Int32.ofInt a0), .ref (adr 48)] (tm M) sz 1 6 r M' := by
  refine yhEnter (by decide) (Nat.le_of_ble_eq_true rfl) ?_
  intro p e s m below meth c ls cx htab hl hw hY
  obtain ⟨hx, hb, hr, hml, hown, hts, hlocks⟩ := id cx
  have hown : s.vm.findClass RL = some m.cls := hown
  have hl : lv_has ls 4 [(0, .ref (adr 0)), (1, .int (Int32.ofInt a0)), (2, .ref (adr 48))] := hl
  generalize wA (LL adr) (wf G adr (tm M)) sz = A at hw hY ⊢
  unfold fL_content at h
  obtain ⟨o, e1, h⟩ := bnd h
  refine lv_aload_n hx hb dL_content_0 rfl (lv_at hl 2 rfl) ?_
  refine lv_iconst (v := Int32.ofInt (0)) hx hb dL_content_1 rfl ?_
  refine lv_aload_n hx hb dL_content_2 rfl (lv_at hl 0 rfl) ?_
  refine lv_iload_n hx hb dL_content_3 rfl (lv_at hl 1 rfl) ?_
  refine y_callVi (k := 0) (c1 := 1) (s1 := 6) (As := [.int (Int32.ofInt a0)]) (rest := [.int (Int32.ofInt (0)), .ref (adr 48)]) cx.fix hi hY hw (cc_X7_content (l := l) (G := G) hl0 hi e1) (by decide) rfl rfl (w_cV 1 hts q_661 q_662 q_663 q_664 q_665 rfl rfl (by decide) (by decide)) hl.1 rfl (lv_room (Nat.le_of_ble_eq_true rfl)) dL_content_4 (by decide) rfl rfl (fun k9 M9 ce q9 H locs ho hw hce hcv hcl => ?_) (fun r9 M9 H locs ho hw => ?_)
  · subst ho
    dsimp only at h
    by_cases h1 : k9 = 1
    · subst h1
      replace h := ite_t rfl h
      cases h
      refine vx_catch (name := nAI) hown [] ⟨0, 9, 12, 19⟩ [] (by rw [htab]; rfl) (fun z h => nomatch h) (by decide) (by decide) (hts _ q_623) (va_Nw.use rfl (hY.1.2.2.2.1 (.castable nAI nAI) (by decide +kernel))) hce hcv hcl ?_
      refine lv_astore_n (lv' := [(3, .ref q9), (0, .ref (adr 0)), (1, .int (Int32.ofInt a0)), (2, .ref (adr 48))]) hx hb dL_content_12 rfl hl (by decide) rfl (fun ls hl => ?_)
      refine lv_iconst (v := Int32.ofInt 1) hx hb dL_content_13 rfl ?_
      exact w_iret (post := fun (r9 : Int32) (u : Mem) => r9 = Int32.ofInt 1 ∧ u = tm M') (lf := fun u => (LL adr, wf G adr u)) hx hb hr hlocks (tm M') hw ⟨rfl, rfl⟩ dL_content_14
    replace h := ite_f h1 h
    cases h
  subst ho
  dsimp only at h
  obtain ⟨_, hg, h⟩ := bnd h
  obtain ⟨M2, e2, h⟩ := bnd h
  cases h
  refine o_i2l hx hb hg dL_content_7 ?_
  refine o_last hx hb hi hw e2 dL_content_8 (fun H locs hw => ?_)
  refine lv_goto (tgt := 15) hx hb dL_content_9 (by decide) ?_
  refine lv_iconst (v := Int32.ofInt 0) hx hb dL_content_15 rfl ?_
  exact w_iret (post := fun (r9 : Int32) (u : Mem) => r9 = Int32.ofInt 0 ∧ u = tm M') (lf := fun u => (LL adr, wf G adr u)) hx hb hr hlocks (tm M') hw ⟨rfl, rfl⟩ dL_content_16
theorem q_666 : Cond.methodLink RL 51 yX7_root ∈ uU := uU_in (by decide +kernel) (by decide +kernel)
theorem q_667 : Cond.instanceMethod yX7_root ∈ uU := uU_in (by decide +kernel) (by decide +kernel)
theorem q_668 : Cond.selects yX7_root.cls yX7_root yX7_root ∈ uU := uU_in (by decide +kernel) (by decide +kernel)
theorem q_669 : Cond.initialized yX7_root.cls ∈ uU := uU_in (by decide +kernel) (by decide +kernel)
theorem q_670 : Cond.code yX7_root cX7_root 4 (some .int) ∈ uU := uU_in (by decide +kernel) (by decide +kernel)
def fL_root (n : Nat) (a0 : Int) (a1 : Int) (a2 : Int) (M : MI) : Option (Int × MI) :=
  Option.bind (f_X7_root n a0 a1 a2 M) fun o => match o with
  | .inl (k, M1) => if k = 1 then some (1, M1) else if k = 3 then some (2, M1) else none
  | .inr (r, M1) => Option.bind (gI r 0) fun _ => Option.bind (osJ M1 48 0 r) fun M2 => some (0, M2)
set_option maxRecDepth 100000 in
set_option maxHeartbeats 4000000 in
theorem cc_L_root {l : Launch} (hl0 : l.stackTraces = false) {G : gG} {adr : Nat → Nat} {sz : Nat} (hi : adi adr) {n : Nat} {a0 : Int} {a1 : Int} {a2 : Int} {M M' : MI} {r : Int} (h : fL_root n a0 a1 a2 M = some (r, M')) : hI l yL_root cL_root 6 (some .int) [(0, 12, 15, 19), (0, 12, 19, 21)] { frames := 9, cells := 2, slots := 12, locals := 138 } G adr [.ref (adr 0), .int (Int32.ofInt a0), .int (Int32.ofInt a1), .int (Int32.ofInt a2), .ref (adr 48)] (tm M) sz 2 12 r M' := by
  refine yhEnter (by decide) (Nat.le_of_ble_eq_true rfl) ?_
  intro p e s m below meth c ls cx htab hl hw hY
  obtain ⟨hx, hb, hr, hml, hown, hts, hlocks⟩ := id cx
  have hown : s.vm.findClass RL = some m.cls := hown
  have hl : lv_has ls 6 [(0, .ref (adr 0)), (1, .int (Int32.ofInt a0)), (2, .int (Int32.ofInt a1)), (3, .int (Int32.ofInt a2)), (4, .ref (adr 48))] := hl
  generalize wA (LL adr) (wf G adr (tm M)) sz = A at hw hY ⊢
  unfold fL_root at h
  obtain ⟨o, e1, h⟩ := bnd h
  refine lv_aload hx hb dL_root_0 (lv_at hl 4 rfl) ?_
  refine lv_iconst (v := Int32.ofInt (0)) hx hb dL_root_2 rfl ?_
  refine lv_aload_n hx hb dL_root_3 rfl (lv_at hl 0 rfl) ?_
  refine lv_iload_n hx hb dL_root_4 rfl (lv_at hl 1 rfl) ?_
  refine lv_iload_n hx hb dL_root_5 rfl (lv_at hl 2 rfl) ?_
  refine lv_iload_n hx hb dL_root_6 rfl (lv_at hl 3 rfl) ?_
  refine y_callVi (k := 0) (c1 := 2) (s1 := 12) (As := [.int (Int32.ofInt a0), .int (Int32.ofInt a1), .int (Int32.ofInt a2)]) (rest := [.int (Int32.ofInt (0)), .ref (adr 48)]) cx.fix hi hY hw (cc_X7_root (l := l) (G := G) hl0 hi e1) (by decide) rfl rfl (w_cV 3 hts q_666 q_667 q_668 q_669 q_670 rfl rfl (by decide) (by decide)) hl.1 rfl (lv_room (Nat.le_of_ble_eq_true rfl)) dL_root_7 (by decide) rfl rfl (fun k9 M9 ce q9 H locs ho hw hce hcv hcl => ?_) (fun r9 M9 H locs ho hw => ?_)
  · subst ho
    dsimp only at h
    by_cases h1 : k9 = 1
    · subst h1
      replace h := ite_t rfl h
      cases h
      refine vx_catch (name := nAI) hown [] ⟨0, 12, 15, 19⟩ [⟨0, 12, 19, 21⟩] (by rw [htab]; rfl) (fun z h => nomatch h) (by decide) (by decide) (hts _ q_623) (va_Nw.use rfl (hY.1.2.2.2.1 (.castable nAI nAI) (by decide +kernel))) hce hcv hcl ?_
      refine lv_astore (lv' := [(5, .ref q9), (0, .ref (adr 0)), (1, .int (Int32.ofInt a0)), (2, .int (Int32.ofInt a1)), (3, .int (Int32.ofInt a2)), (4, .ref (adr 48))]) hx hb dL_root_15 hl (by decide) rfl (fun ls hl => ?_)
      refine lv_iconst (v := Int32.ofInt 1) hx hb dL_root_17 rfl ?_
      exact w_iret (post := fun (r9 : Int32) (u : Mem) => r9 = Int32.ofInt 1 ∧ u = tm M') (lf := fun u => (LL adr, wf G adr u)) hx hb hr hlocks (tm M') hw ⟨rfl, rfl⟩ dL_root_18
    replace h := ite_f h1 h
    by_cases h3 : k9 = 3
    · subst h3
      replace h := ite_t rfl h
      cases h
      refine vx_catch (name := nIA) hown [⟨0, 12, 15, 19⟩] ⟨0, 12, 19, 21⟩ [] (by rw [htab]; rfl) (List.forall_mem_cons.mpr ⟨Or.inr ⟨by decide, nAI, hts _ q_623, hY.1.2.2.2.2 (nIA, nAI) (by decide)⟩, fun z h => nomatch h⟩) (by decide) (by decide) (hts _ q_624) (va_Nw.use rfl (hY.1.2.2.2.1 (.castable nIA nIA) (by decide +kernel))) hce hcv hcl ?_
      refine lv_astore (lv' := [(5, .ref q9), (0, .ref (adr 0)), (1, .int (Int32.ofInt a0)), (2, .int (Int32.ofInt a1)), (3, .int (Int32.ofInt a2)), (4, .ref (adr 48))]) hx hb dL_root_19 hl (by decide) rfl (fun ls hl => ?_)
      refine lv_iconst (v := Int32.ofInt 2) hx hb dL_root_21 rfl ?_
      exact w_iret (post := fun (r9 : Int32) (u : Mem) => r9 = Int32.ofInt 2 ∧ u = tm M') (lf := fun u => (LL adr, wf G adr u)) hx hb hr hlocks (tm M') hw ⟨rfl, rfl⟩ dL_root_22
    replace h := ite_f h3 h
    cases h
  subst ho
  dsimp only at h
  obtain ⟨_, hg, h⟩ := bnd h
  obtain ⟨M2, e2, h⟩ := bnd h
  cases h
  refine o_i2l hx hb hg dL_root_10 ?_
  refine o_last hx hb hi hw e2 dL_root_11 (fun H locs hw => ?_)
  refine lv_goto (tgt := 23) hx hb dL_root_12 (by decide) ?_
  refine lv_iconst (v := Int32.ofInt 0) hx hb dL_root_23 rfl ?_
  exact w_iret (post := fun (r9 : Int32) (u : Mem) => r9 = Int32.ofInt 0 ∧ u = tm M') (lf := fun u => (LL adr, wf G adr u)) hx hb hr hlocks (tm M') hw ⟨rfl, rfl⟩ dL_root_24
theorem q_671 : Cond.methodLink RL 55 yX7_roots ∈ uU := uU_in (by decide +kernel) (by decide +kernel)
theorem q_672 : Cond.instanceMethod yX7_roots ∈ uU := uU_in (by decide +kernel) (by decide +kernel)
theorem q_673 : Cond.selects yX7_roots.cls yX7_roots yX7_roots ∈ uU := uU_in (by decide +kernel) (by decide +kernel)
theorem q_674 : Cond.initialized yX7_roots.cls ∈ uU := uU_in (by decide +kernel) (by decide +kernel)
theorem q_675 : Cond.code yX7_roots cX7_roots 2 (some .int) ∈ uU := uU_in (by decide +kernel) (by decide +kernel)
def fL_roots (n : Nat) (a0 : Int) (M : MI) : Option (Int × MI) :=
  Option.bind (f_X7_roots n a0 M) fun o => match o with
  | .inl (k, M1) => if k = 1 then some (1, M1) else none
  | .inr (r, M1) => Option.bind (gI r 0) fun _ => Option.bind (osJ M1 48 0 r) fun M2 => some (0, M2)
set_option maxRecDepth 100000 in
set_option maxHeartbeats 4000000 in
theorem cc_L_roots {l : Launch} (hl0 : l.stackTraces = false) {G : gG} {adr : Nat → Nat} {sz : Nat} (hi : adi adr) {n : Nat} {a0 : Int} {M M' : MI} {r : Int} (h : fL_roots n a0 M = some (r, M')) : hI l yL_roots cL_roots 4 (some .int) [(0, 9, 12, 19)] { frames := 9, cells := 1, slots := 6, locals := 136 } G adr [.ref (adr 0), .int (Int32.ofInt a0), .ref (adr 48)] (tm M) sz 1 6 r M' := by
  refine yhEnter (by decide) (Nat.le_of_ble_eq_true rfl) ?_
  intro p e s m below meth c ls cx htab hl hw hY
  obtain ⟨hx, hb, hr, hml, hown, hts, hlocks⟩ := id cx
  have hown : s.vm.findClass RL = some m.cls := hown
  have hl : lv_has ls 4 [(0, .ref (adr 0)), (1, .int (Int32.ofInt a0)), (2, .ref (adr 48))] := hl
  generalize wA (LL adr) (wf G adr (tm M)) sz = A at hw hY ⊢
  unfold fL_roots at h
  obtain ⟨o, e1, h⟩ := bnd h
  refine lv_aload_n hx hb dL_roots_0 rfl (lv_at hl 2 rfl) ?_
  refine lv_iconst (v := Int32.ofInt (0)) hx hb dL_roots_1 rfl ?_
  refine lv_aload_n hx hb dL_roots_2 rfl (lv_at hl 0 rfl) ?_
  refine lv_iload_n hx hb dL_roots_3 rfl (lv_at hl 1 rfl) ?_
  refine y_callVi (k := 0) (c1 := 1) (s1 := 6) (As := [.int (Int32.ofInt a0)]) (rest := [.int (Int32.ofInt (0)), .ref (adr 48)]) cx.fix hi hY hw (cc_X7_roots (l := l) (G := G) hl0 hi e1) (by decide) rfl rfl (w_cV 1 hts q_671 q_672 q_673 q_674 q_675 rfl rfl (by decide) (by decide)) hl.1 rfl (lv_room (Nat.le_of_ble_eq_true rfl)) dL_roots_4 (by decide) rfl rfl (fun k9 M9 ce q9 H locs ho hw hce hcv hcl => ?_) (fun r9 M9 H locs ho hw => ?_)
  · subst ho
    dsimp only at h
    by_cases h1 : k9 = 1
    · subst h1
      replace h := ite_t rfl h
      cases h
      refine vx_catch (name := nAI) hown [] ⟨0, 9, 12, 19⟩ [] (by rw [htab]; rfl) (fun z h => nomatch h) (by decide) (by decide) (hts _ q_623) (va_Nw.use rfl (hY.1.2.2.2.1 (.castable nAI nAI) (by decide +kernel))) hce hcv hcl ?_
      refine lv_astore_n (lv' := [(3, .ref q9), (0, .ref (adr 0)), (1, .int (Int32.ofInt a0)), (2, .ref (adr 48))]) hx hb dL_roots_12 rfl hl (by decide) rfl (fun ls hl => ?_)
      refine lv_iconst (v := Int32.ofInt 1) hx hb dL_roots_13 rfl ?_
      exact w_iret (post := fun (r9 : Int32) (u : Mem) => r9 = Int32.ofInt 1 ∧ u = tm M') (lf := fun u => (LL adr, wf G adr u)) hx hb hr hlocks (tm M') hw ⟨rfl, rfl⟩ dL_roots_14
    replace h := ite_f h1 h
    cases h
  subst ho
  dsimp only at h
  obtain ⟨_, hg, h⟩ := bnd h
  obtain ⟨M2, e2, h⟩ := bnd h
  cases h
  refine o_i2l hx hb hg dL_roots_7 ?_
  refine o_last hx hb hi hw e2 dL_roots_8 (fun H locs hw => ?_)
  refine lv_goto (tgt := 15) hx hb dL_roots_9 (by decide) ?_
  refine lv_iconst (v := Int32.ofInt 0) hx hb dL_roots_15 rfl ?_
  exact w_iret (post := fun (r9 : Int32) (u : Mem) => r9 = Int32.ofInt 0 ∧ u = tm M') (lf := fun u => (LL adr, wf G adr u)) hx hb hr hlocks (tm M') hw ⟨rfl, rfl⟩ dL_roots_16
theorem q_676 : Cond.methodLink RL 58 yX7_parts ∈ uU := uU_in (by decide +kernel) (by decide +kernel)
theorem q_677 : Cond.instanceMethod yX7_parts ∈ uU := uU_in (by decide +kernel) (by decide +kernel)
theorem q_678 : Cond.selects yX7_parts.cls yX7_parts yX7_parts ∈ uU := uU_in (by decide +kernel) (by decide +kernel)
theorem q_679 : Cond.initialized yX7_parts.cls ∈ uU := uU_in (by decide +kernel) (by decide +kernel)
theorem q_680 : Cond.code yX7_parts cX7_parts 4 (some .int) ∈ uU := uU_in (by decide +kernel) (by decide +kernel)
def fL_parts (n : Nat) (a0 : Int) (a1 : Int) (M : MI) : Option (Int × MI) :=
  Option.bind (f_X7_parts n a0 a1 M) fun o => match o with
  | .inl (k, M1) => if k = 1 then some (1, M1) else if k = 3 then some (2, M1) else none
  | .inr (r, M1) => Option.bind (gI r 0) fun _ => Option.bind (osJ M1 48 0 r) fun M2 => some (0, M2)
set_option maxRecDepth 100000 in
set_option maxHeartbeats 4000000 in
theorem cc_L_parts {l : Launch} (hl0 : l.stackTraces = false) {G : gG} {adr : Nat → Nat} {sz : Nat} (hi : adi adr) {n : Nat} {a0 : Int} {a1 : Int} {M M' : MI} {r : Int} (h : fL_parts n a0 a1 M = some (r, M')) : hI l yL_parts cL_parts 5 (some .int) [(0, 10, 13, 19), (0, 10, 17, 21)] { frames := 9, cells := 2, slots := 12, locals := 153 } G adr [.ref (adr 0), .int (Int32.ofInt a0), .int (Int32.ofInt a1), .ref (adr 48)] (tm M) sz 2 12 r M' := by
  refine yhEnter (by decide) (Nat.le_of_ble_eq_true rfl) ?_
  intro p e s m below meth c ls cx htab hl hw hY
  obtain ⟨hx, hb, hr, hml, hown, hts, hlocks⟩ := id cx
  have hown : s.vm.findClass RL = some m.cls := hown
  have hl : lv_has ls 5 [(0, .ref (adr 0)), (1, .int (Int32.ofInt a0)), (2, .int (Int32.ofInt a1)), (3, .ref (adr 48))] := hl
  generalize wA (LL adr) (wf G adr (tm M)) sz = A at hw hY ⊢
  unfold fL_parts at h
  obtain ⟨o, e1, h⟩ := bnd h
  refine lv_aload_n hx hb dL_parts_0 rfl (lv_at hl 3 rfl) ?_
  refine lv_iconst (v := Int32.ofInt (0)) hx hb dL_parts_1 rfl ?_
  refine lv_aload_n hx hb dL_parts_2 rfl (lv_at hl 0 rfl) ?_
  refine lv_iload_n hx hb dL_parts_3 rfl (lv_at hl 1 rfl) ?_
  refine lv_iload_n hx hb dL_parts_4 rfl (lv_at hl 2 rfl) ?_
  refine y_callVi (k := 0) (c1 := 2) (s1 := 12) (As := [.int (Int32.ofInt a0), .int (Int32.ofInt a1)]) (rest := [.int (Int32.ofInt (0)), .ref (adr 48)]) cx.fix hi hY hw (cc_X7_parts (l := l) (G := G) hl0 hi e1) (by decide) rfl rfl (w_cV 2 hts q_676 q_677 q_678 q_679 q_680 rfl rfl (by decide) (by decide)) hl.1 rfl (lv_room (Nat.le_of_ble_eq_true rfl)) dL_parts_5 (by decide) rfl rfl (fun k9 M9 ce q9 H locs ho hw hce hcv hcl => ?_) (fun r9 M9 H locs ho hw => ?_)
  · subst ho
    dsimp only at h
    by_cases h1 : k9 = 1
    · subst h1
      replace h := ite_t rfl h
      cases h
      refine vx_catch (name := nAI) hown [] ⟨0, 10, 13, 19⟩ [⟨0, 10, 17, 21⟩] (by rw [htab]; rfl) (fun z h => nomatch h) (by decide) (by decide) (hts _ q_623) (va_Nw.use rfl (hY.1.2.2.2.1 (.castable nAI nAI) (by decide +kernel))) hce hcv hcl ?_
      refine lv_astore (lv' := [(4, .ref q9), (0, .ref (adr 0)), (1, .int (Int32.ofInt a0)), (2, .int (Int32.ofInt a1)), (3, .ref (adr 48))]) hx hb dL_parts_13 hl (by decide) rfl (fun ls hl => ?_)
      refine lv_iconst (v := Int32.ofInt 1) hx hb dL_parts_15 rfl ?_
      exact w_iret (post := fun (r9 : Int32) (u : Mem) => r9 = Int32.ofInt 1 ∧ u = tm M') (lf := fun u => (LL adr, wf G adr u)) hx hb hr hlocks (tm M') hw ⟨rfl, rfl⟩ dL_parts_16
    replace h := ite_f h1 h
    by_cases h3 : k9 = 3
    · subst h3
      replace h := ite_t rfl h
      cases h
      refine vx_catch (name := nIA) hown [⟨0, 10, 13, 19⟩] ⟨0, 10, 17, 21⟩ [] (by rw [htab]; rfl) (List.forall_mem_cons.mpr ⟨Or.inr ⟨by decide, nAI, hts _ q_623, hY.1.2.2.2.2 (nIA, nAI) (by decide)⟩, fun z h => nomatch h⟩) (by decide) (by decide) (hts _ q_624) (va_Nw.use rfl (hY.1.2.2.2.1 (.castable nIA nIA) (by decide +kernel))) hce hcv hcl ?_
      refine lv_astore (lv' := [(4, .ref q9), (0, .ref (adr 0)), (1, .int (Int32.ofInt a0)), (2, .int (Int32.ofInt a1)), (3, .ref (adr 48))]) hx hb dL_parts_17 hl (by decide) rfl (fun ls hl => ?_)
      refine lv_iconst (v := Int32.ofInt 2) hx hb dL_parts_19 rfl ?_
      exact w_iret (post := fun (r9 : Int32) (u : Mem) => r9 = Int32.ofInt 2 ∧ u = tm M') (lf := fun u => (LL adr, wf G adr u)) hx hb hr hlocks (tm M') hw ⟨rfl, rfl⟩ dL_parts_20
    replace h := ite_f h3 h
    cases h
  subst ho
  dsimp only at h
  obtain ⟨_, hg, h⟩ := bnd h
  obtain ⟨M2, e2, h⟩ := bnd h
  cases h
  refine o_i2l hx hb hg dL_parts_8 ?_
  refine o_last hx hb hi hw e2 dL_parts_9 (fun H locs hw => ?_)
  refine lv_goto (tgt := 21) hx hb dL_parts_10 (by decide) ?_
  refine lv_iconst (v := Int32.ofInt 0) hx hb dL_parts_21 rfl ?_
  exact w_iret (post := fun (r9 : Int32) (u : Mem) => r9 = Int32.ofInt 0 ∧ u = tm M') (lf := fun u => (LL adr, wf G adr u)) hx hb hr hlocks (tm M') hw ⟨rfl, rfl⟩ dL_parts_22
theorem q_681 : Cond.methodLink RL 61 yX7_squareFree ∈ uU := uU_in (by decide +kernel) (by decide +kernel)
theorem q_682 : Cond.instanceMethod yX7_squareFree ∈ uU := uU_in (by decide +kernel) (by decide +kernel)
theorem q_683 : Cond.selects yX7_squareFree.cls yX7_squareFree yX7_squareFree ∈ uU := uU_in (by decide +kernel) (by decide +kernel)
theorem q_684 : Cond.initialized yX7_squareFree.cls ∈ uU := uU_in (by decide +kernel) (by decide +kernel)
theorem q_685 : Cond.code yX7_squareFree cX7_squareFree 2 (some .boolean) ∈ uU := uU_in (by decide +kernel) (by decide +kernel)
def fL_squareFree (n : Nat) (a0 : Int) (M : MI) : Option (Int × MI) :=
  Option.bind (f_X7_squareFree n a0 M) fun o => match o with
  | .inl (k, M1) => if k = 1 then some (1, M1) else none
  | .inr (r, M1) => Option.bind (gI r 0) fun _ => Option.bind (osJ M1 48 0 (if r = 0 then 0 else 1)) fun M2 => some (0, M2)
set_option maxRecDepth 100000 in
set_option maxHeartbeats 4000000 in
theorem cc_L_squareFree {l : Launch} (hl0 : l.stackTraces = false) {G : gG} {adr : Nat → Nat} {sz : Nat} (hi : adi adr) {n : Nat} {a0 : Int} {M M' : MI} {r : Int} (h : fL_squareFree n a0 M = some (r, M')) : hI l yL_squareFree cL_squareFree 4 (some .int) [(0, 16, 19, 19)] { frames := 9, cells := 1, slots := 6, locals := 160 } G adr [.ref (adr 0), .int (Int32.ofInt a0), .ref (adr 48)] (tm M) sz 1 6 r M' := by
  refine yhEnter (by decide) (Nat.le_of_ble_eq_true rfl) ?_
  intro p e s m below meth c ls cx htab hl hw hY
  obtain ⟨hx, hb, hr, hml, hown, hts, hlocks⟩ := id cx
  have hown : s.vm.findClass RL = some m.cls := hown
  have hl : lv_has ls 4 [(0, .ref (adr 0)), (1, .int (Int32.ofInt a0)), (2, .ref (adr 48))] := hl
  generalize wA (LL adr) (wf G adr (tm M)) sz = A at hw hY ⊢
  unfold fL_squareFree at h
  obtain ⟨o, e1, h⟩ := bnd h
  refine lv_aload_n hx hb dL_squareFree_0 rfl (lv_at hl 2 rfl) ?_
  refine lv_iconst (v := Int32.ofInt (0)) hx hb dL_squareFree_1 rfl ?_
  refine lv_aload_n hx hb dL_squareFree_2 rfl (lv_at hl 0 rfl) ?_
  refine lv_iload_n hx hb dL_squareFree_3 rfl (lv_at hl 1 rfl) ?_
  refine y_callVi (k := 0) (c1 := 1) (s1 := 6) (As := [.int (Int32.ofInt a0)]) (rest := [.int (Int32.ofInt (0)), .ref (adr 48)]) cx.fix hi hY hw (cc_X7_squareFree (l := l) (G := G) hl0 hi e1) (by decide) rfl rfl (w_cV 1 hts q_681 q_682 q_683 q_684 q_685 rfl rfl (by decide) (by decide)) hl.1 rfl (lv_room (Nat.le_of_ble_eq_true rfl)) dL_squareFree_4 (by decide) rfl rfl (fun k9 M9 ce q9 H locs ho hw hce hcv hcl => ?_) (fun r9 M9 H locs ho hw => ?_)
  · subst ho
    dsimp only at h
    by_cases h1 : k9 = 1
    · subst h1
      replace h := ite_t rfl h
      cases h
      refine vx_catch (name := nAI) hown [] ⟨0, 16, 19, 19⟩ [] (by rw [htab]; rfl) (fun z h => nomatch h) (by decide) (by decide) (hts _ q_623) (va_Nw.use rfl (hY.1.2.2.2.1 (.castable nAI nAI) (by decide +kernel))) hce hcv hcl ?_
      refine lv_astore_n (lv' := [(3, .ref q9), (0, .ref (adr 0)), (1, .int (Int32.ofInt a0)), (2, .ref (adr 48))]) hx hb dL_squareFree_19 rfl hl (by decide) rfl (fun ls hl => ?_)
      refine lv_iconst (v := Int32.ofInt 1) hx hb dL_squareFree_20 rfl ?_
      exact w_iret (post := fun (r9 : Int32) (u : Mem) => r9 = Int32.ofInt 1 ∧ u = tm M') (lf := fun u => (LL adr, wf G adr u)) hx hb hr hlocks (tm M') hw ⟨rfl, rfl⟩ dL_squareFree_21
    replace h := ite_f h1 h
    cases h
  subst ho
  dsimp only at h
  obtain ⟨_, hg, h⟩ := bnd h
  obtain ⟨M2, e2, h⟩ := bnd h
  cases h
  refine o_if_eq (tgt := 14) hx hb hg dL_squareFree_7 (by decide) (fun hc => ?_) (fun hc => ?_)
  · rw [if_pos hc] at e2
    refine lv_lconst (v := Int64.ofInt (0)) hx hb dL_squareFree_14 (by decide) ?_
    refine o_last hx hb hi hw e2 dL_squareFree_15 (fun H locs hw => ?_)
    refine lv_goto (tgt := 22) hx hb dL_squareFree_16 (by decide) ?_
    refine lv_iconst (v := Int32.ofInt 0) hx hb dL_squareFree_22 rfl ?_
    exact w_iret (post := fun (r9 : Int32) (u : Mem) => r9 = Int32.ofInt 0 ∧ u = tm M') (lf := fun u => (LL adr, wf G adr u)) hx hb hr hlocks (tm M') hw ⟨rfl, rfl⟩ dL_squareFree_23
  · rw [if_neg hc] at e2
    refine lv_lconst (v := Int64.ofInt (1)) hx hb dL_squareFree_10 (by decide) ?_
    refine lv_goto (tgt := 15) hx hb dL_squareFree_11 (by decide) ?_
    refine o_last hx hb hi hw e2 dL_squareFree_15 (fun H locs hw => ?_)
    refine lv_goto (tgt := 22) hx hb dL_squareFree_16 (by decide) ?_
    refine lv_iconst (v := Int32.ofInt 0) hx hb dL_squareFree_22 rfl ?_
    exact w_iret (post := fun (r9 : Int32) (u : Mem) => r9 = Int32.ofInt 0 ∧ u = tm M') (lf := fun u => (LL adr, wf G adr u)) hx hb hr hlocks (tm M') hw ⟨rfl, rfl⟩ dL_squareFree_23
theorem q_686 : Cond.methodLink RL 65 yX7_value ∈ uU := uU_in (by decide +kernel) (by decide +kernel)
theorem q_687 : Cond.instanceMethod yX7_value ∈ uU := uU_in (by decide +kernel) (by decide +kernel)
theorem q_688 : Cond.selects yX7_value.cls yX7_value yX7_value ∈ uU := uU_in (by decide +kernel) (by decide +kernel)
theorem q_689 : Cond.initialized yX7_value.cls ∈ uU := uU_in (by decide +kernel) (by decide +kernel)
theorem q_690 : Cond.code yX7_value cX7_value 9 (some .int) ∈ uU := uU_in (by decide +kernel) (by decide +kernel)
def fL_value (n : Nat) (a0 : Int) (a1 : Int) (a2 : Int) (M : MI) : Option (Int × MI) :=
  Option.bind (f_X7_value n a0 a1 a2 M) fun o => match o with
  | .inl (k, M1) => if k = 1 then some (1, M1) else if k = 3 then some (2, M1) else none
  | .inr (r, M1) => Option.bind (gI r 0) fun _ => Option.bind (osJ M1 48 0 r) fun M2 => some (0, M2)
set_option maxRecDepth 100000 in
set_option maxHeartbeats 4000000 in
theorem cc_L_value {l : Launch} (hl0 : l.stackTraces = false) {G : gG} {adr : Nat → Nat} {sz : Nat} (hi : adi adr) {n : Nat} {a0 : Int} {a1 : Int} {a2 : Int} {M M' : MI} {r : Int} (h : fL_value n a0 a1 a2 M = some (r, M')) : hI l yL_value cL_value 6 (some .int) [(0, 12, 15, 19), (0, 12, 19, 21)] { frames := 9, cells := 2, slots := 12, locals := 143 } G adr [.ref (adr 0), .int (Int32.ofInt a0), .int (Int32.ofInt a1), .int (Int32.ofInt a2), .ref (adr 48)] (tm M) sz 2 12 r M' := by
  refine yhEnter (by decide) (Nat.le_of_ble_eq_true rfl) ?_
  intro p e s m below meth c ls cx htab hl hw hY
  obtain ⟨hx, hb, hr, hml, hown, hts, hlocks⟩ := id cx
  have hown : s.vm.findClass RL = some m.cls := hown
  have hl : lv_has ls 6 [(0, .ref (adr 0)), (1, .int (Int32.ofInt a0)), (2, .int (Int32.ofInt a1)), (3, .int (Int32.ofInt a2)), (4, .ref (adr 48))] := hl
  generalize wA (LL adr) (wf G adr (tm M)) sz = A at hw hY ⊢
  unfold fL_value at h
  obtain ⟨o, e1, h⟩ := bnd h
  refine lv_aload hx hb dL_value_0 (lv_at hl 4 rfl) ?_
  refine lv_iconst (v := Int32.ofInt (0)) hx hb dL_value_2 rfl ?_
  refine lv_aload_n hx hb dL_value_3 rfl (lv_at hl 0 rfl) ?_
  refine lv_iload_n hx hb dL_value_4 rfl (lv_at hl 1 rfl) ?_
  refine lv_iload_n hx hb dL_value_5 rfl (lv_at hl 2 rfl) ?_
  refine lv_iload_n hx hb dL_value_6 rfl (lv_at hl 3 rfl) ?_
  refine y_callVi (k := 0) (c1 := 2) (s1 := 12) (As := [.int (Int32.ofInt a0), .int (Int32.ofInt a1), .int (Int32.ofInt a2)]) (rest := [.int (Int32.ofInt (0)), .ref (adr 48)]) cx.fix hi hY hw (cc_X7_value (l := l) (G := G) hl0 hi e1) (by decide) rfl rfl (w_cV 3 hts q_686 q_687 q_688 q_689 q_690 rfl rfl (by decide) (by decide)) hl.1 rfl (lv_room (Nat.le_of_ble_eq_true rfl)) dL_value_7 (by decide) rfl rfl (fun k9 M9 ce q9 H locs ho hw hce hcv hcl => ?_) (fun r9 M9 H locs ho hw => ?_)
  · subst ho
    dsimp only at h
    by_cases h1 : k9 = 1
    · subst h1
      replace h := ite_t rfl h
      cases h
      refine vx_catch (name := nAI) hown [] ⟨0, 12, 15, 19⟩ [⟨0, 12, 19, 21⟩] (by rw [htab]; rfl) (fun z h => nomatch h) (by decide) (by decide) (hts _ q_623) (va_Nw.use rfl (hY.1.2.2.2.1 (.castable nAI nAI) (by decide +kernel))) hce hcv hcl ?_
      refine lv_astore (lv' := [(5, .ref q9), (0, .ref (adr 0)), (1, .int (Int32.ofInt a0)), (2, .int (Int32.ofInt a1)), (3, .int (Int32.ofInt a2)), (4, .ref (adr 48))]) hx hb dL_value_15 hl (by decide) rfl (fun ls hl => ?_)
      refine lv_iconst (v := Int32.ofInt 1) hx hb dL_value_17 rfl ?_
      exact w_iret (post := fun (r9 : Int32) (u : Mem) => r9 = Int32.ofInt 1 ∧ u = tm M') (lf := fun u => (LL adr, wf G adr u)) hx hb hr hlocks (tm M') hw ⟨rfl, rfl⟩ dL_value_18
    replace h := ite_f h1 h
    by_cases h3 : k9 = 3
    · subst h3
      replace h := ite_t rfl h
      cases h
      refine vx_catch (name := nIA) hown [⟨0, 12, 15, 19⟩] ⟨0, 12, 19, 21⟩ [] (by rw [htab]; rfl) (List.forall_mem_cons.mpr ⟨Or.inr ⟨by decide, nAI, hts _ q_623, hY.1.2.2.2.2 (nIA, nAI) (by decide)⟩, fun z h => nomatch h⟩) (by decide) (by decide) (hts _ q_624) (va_Nw.use rfl (hY.1.2.2.2.1 (.castable nIA nIA) (by decide +kernel))) hce hcv hcl ?_
      refine lv_astore (lv' := [(5, .ref q9), (0, .ref (adr 0)), (1, .int (Int32.ofInt a0)), (2, .int (Int32.ofInt a1)), (3, .int (Int32.ofInt a2)), (4, .ref (adr 48))]) hx hb dL_value_19 hl (by decide) rfl (fun ls hl => ?_)
      refine lv_iconst (v := Int32.ofInt 2) hx hb dL_value_21 rfl ?_
      exact w_iret (post := fun (r9 : Int32) (u : Mem) => r9 = Int32.ofInt 2 ∧ u = tm M') (lf := fun u => (LL adr, wf G adr u)) hx hb hr hlocks (tm M') hw ⟨rfl, rfl⟩ dL_value_22
    replace h := ite_f h3 h
    cases h
  subst ho
  dsimp only at h
  obtain ⟨_, hg, h⟩ := bnd h
  obtain ⟨M2, e2, h⟩ := bnd h
  cases h
  refine o_i2l hx hb hg dL_value_10 ?_
  refine o_last hx hb hi hw e2 dL_value_11 (fun H locs hw => ?_)
  refine lv_goto (tgt := 23) hx hb dL_value_12 (by decide) ?_
  refine lv_iconst (v := Int32.ofInt 0) hx hb dL_value_23 rfl ?_
  exact w_iret (post := fun (r9 : Int32) (u : Mem) => r9 = Int32.ofInt 0 ∧ u = tm M') (lf := fun u => (LL adr, wf G adr u)) hx hb hr hlocks (tm M') hw ⟨rfl, rfl⟩ dL_value_24
