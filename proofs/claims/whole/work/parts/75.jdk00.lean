def f_J9_abs_067f4 (a0 : Int) : Option Int :=
  Option.bind (
    Option.bind (gJ a0 (0)) fun _ =>
    if (0) ≤ a0 then
      some a0
    else
      some (-a0)) fun v1 =>
  some v1
set_option maxRecDepth 100000 in
set_option maxHeartbeats 8000000 in
theorem b_J9_abs_067f4 {p : Program} {l : Launch} {e : Env} {s : State} {m : MethodId} {args : Array Value} {below : List Frame} {meth : Method} {c : Code} {Q : State → Prop} {G : gG} {A : Nat → Prop} {adr : Nat → Nat} (cx : cX p s m args meth c cJ9_abs_067f4 (some .long) 2 yJ9_abs_067f4.cls) (hi : adi adr) {a0 : Int} {M : MI} {r : Int} 
    (h : f_J9_abs_067f4 a0 = some r)
    (kr : ∀ (pc : Nat) (ls : Array Slot) (H : Heap) (locs : List Loc), decode cJ9_abs_067f4 pc = .ok (.lreturn, 1) → wH G A s.heap s (LL adr) (wf G adr (tm M)) H locs → W p l e { frames := 0, cells := 0, slots := 0, locals := 0 } s m args below meth c H locs 0 0 Q (F0 m pc ls [.long (Int64.ofInt r)]))
    {ls : Array Slot} {H : Heap} {locs : List Loc} (hl : lv_has ls 2 [(0, .long (Int64.ofInt a0))]) (hw : wH G A s.heap s (LL adr) (wf G adr (tm M)) H locs) : W p l e { frames := 0, cells := 0, slots := 0, locals := 0 } s m args below meth c H locs 0 0 Q (F0 m 0 ls []) := by
  obtain ⟨hx, hb, -, -, hown, hts, -⟩ := id cx
  have hown : s.vm.findClass RJ9 = some m.cls := hown
  unfold f_J9_abs_067f4 at h
  refine lv_lload_n hx hb dJ9_abs_067f4_0 rfl (lv_at hl 0 rfl) ?_
  refine lv_lconst (v := Int64.ofInt (0)) hx hb dJ9_abs_067f4_1 (by decide) ?_
  replace h := bnd h
  obtain ⟨v1, j2, h⟩ := h
  have kj : ∀ (ls : Array Slot) (H : Heap) (locs : List Loc), lv_has ls 2 [] → wH G A s.heap s (LL adr) (wf G adr (tm M)) H locs → W p l e { frames := 0, cells := 0, slots := 0, locals := 0 } s m args below meth c H locs 0 0 Q (F0 m 12 ls [.long (Int64.ofInt v1)]) := by
    intro ls H locs hl hw
    cases h
    exact kr _ _ _ _ dJ9_abs_067f4_12 hw
  clear h
  replace h := j2
  clear j2
  replace h := bnd h
  obtain ⟨_, hg, h⟩ := h
  refine o_lcmp_ge (tgt := 11) hx hb hg dJ9_abs_067f4_2 dJ9_abs_067f4_3 (by decide) (fun hc => ?_) (fun hc => ?_)
  · replace h := ite_t hc h
    refine lv_lload_n hx hb dJ9_abs_067f4_11 rfl (lv_at hl 0 rfl) ?_
    cases h
    exact kj _ _ _ (lv_sub hl [] rfl) hw
  · replace h := ite_f hc h
    refine lv_lload_n hx hb dJ9_abs_067f4_6 rfl (lv_at hl 0 rfl) ?_
    refine o_lneg hx hb dJ9_abs_067f4_7 ?_
    refine lv_goto (tgt := 12) hx hb dJ9_abs_067f4_8 (by decide) ?_
    cases h
    exact kj _ _ _ (lv_sub hl [] rfl) hw
theorem cc_J9_abs_067f4 {l : Launch} {G : gG} {adr : Nat → Nat} {sz : Nat} (hi : adi adr) {a0 : Int} {M : MI} {r : Int} (h : f_J9_abs_067f4 a0 = some r) : mL l yJ9_abs_067f4 cJ9_abs_067f4 2 (some .long) { frames := 0, cells := 0, slots := 0, locals := 0 } G adr [.long (Int64.ofInt a0)] (tm M) sz (Int64.ofInt r) (tm M) := by
  refine wEnterF (by decide +kernel) (Nat.le_of_ble_eq_true rfl) ?_
  intro p e s m below meth c ls cx hinit hl hsz hw
  exact b_J9_abs_067f4 cx hi h (fun pc ls H locs hd hw => w_lret (post := fun (r9 : Int64) (u : Mem) => r9 = Int64.ofInt r ∧ u = tm M) (lf := fun u => (LL adr, wf G adr u)) cx.1 cx.2.1 cx.2.2.1 cx.2.2.2.2.2.2 (tm M) hw ⟨rfl, rfl⟩ hd) hl hw
def f_J9_max_7cf53 (a0 : Int) (a1 : Int) : Option Int :=
  Option.bind (
    Option.bind (gI a0 a1) fun _ =>
    if a0 < a1 then
      some a1
    else
      some a0) fun v1 =>
  some v1
set_option maxRecDepth 100000 in
set_option maxHeartbeats 8000000 in
theorem b_J9_max_7cf53 {p : Program} {l : Launch} {e : Env} {s : State} {m : MethodId} {args : Array Value} {below : List Frame} {meth : Method} {c : Code} {Q : State → Prop} {G : gG} {A : Nat → Prop} {adr : Nat → Nat} (cx : cX p s m args meth c cJ9_max_7cf53 (some .int) 2 yJ9_max_7cf53.cls) (hi : adi adr) {a0 : Int} {a1 : Int} {M : MI} {r : Int} 
    (h : f_J9_max_7cf53 a0 a1 = some r)
    (kr : ∀ (pc : Nat) (ls : Array Slot) (H : Heap) (locs : List Loc), decode cJ9_max_7cf53 pc = .ok (.ireturn, 1) → wH G A s.heap s (LL adr) (wf G adr (tm M)) H locs → W p l e { frames := 0, cells := 0, slots := 0, locals := 0 } s m args below meth c H locs 0 0 Q (F0 m pc ls [.int (Int32.ofInt r)]))
    {ls : Array Slot} {H : Heap} {locs : List Loc} (hl : lv_has ls 2 [(0, .int (Int32.ofInt a0)), (1, .int (Int32.ofInt a1))]) (hw : wH G A s.heap s (LL adr) (wf G adr (tm M)) H locs) : W p l e { frames := 0, cells := 0, slots := 0, locals := 0 } s m args below meth c H locs 0 0 Q (F0 m 0 ls []) := by
  obtain ⟨hx, hb, -, -, hown, hts, -⟩ := id cx
  have hown : s.vm.findClass RJ9 = some m.cls := hown
  unfold f_J9_max_7cf53 at h
  refine lv_iload_n hx hb dJ9_max_7cf53_0 rfl (lv_at hl 0 rfl) ?_
  refine lv_iload_n hx hb dJ9_max_7cf53_1 rfl (lv_at hl 1 rfl) ?_
  replace h := bnd h
  obtain ⟨v1, j2, h⟩ := h
  have kj : ∀ (ls : Array Slot) (H : Heap) (locs : List Loc), lv_has ls 2 [] → wH G A s.heap s (LL adr) (wf G adr (tm M)) H locs → W p l e { frames := 0, cells := 0, slots := 0, locals := 0 } s m args below meth c H locs 0 0 Q (F0 m 10 ls [.int (Int32.ofInt v1)]) := by
    intro ls H locs hl hw
    cases h
    exact kr _ _ _ _ dJ9_max_7cf53_10 hw
  clear h
  replace h := j2
  clear j2
  replace h := bnd h
  obtain ⟨_, hg, h⟩ := h
  refine o_icmp_lt (tgt := 9) hx hb hg dJ9_max_7cf53_2 (by decide) (fun hc => ?_) (fun hc => ?_)
  · replace h := ite_t hc h
    refine lv_iload_n hx hb dJ9_max_7cf53_9 rfl (lv_at hl 1 rfl) ?_
    cases h
    exact kj _ _ _ (lv_sub hl [] rfl) hw
  · replace h := ite_f hc h
    refine lv_iload_n hx hb dJ9_max_7cf53_5 rfl (lv_at hl 0 rfl) ?_
    refine lv_goto (tgt := 10) hx hb dJ9_max_7cf53_6 (by decide) ?_
    cases h
    exact kj _ _ _ (lv_sub hl [] rfl) hw
theorem cc_J9_max_7cf53 {l : Launch} {G : gG} {adr : Nat → Nat} {sz : Nat} (hi : adi adr) {a0 : Int} {a1 : Int} {M : MI} {r : Int} (h : f_J9_max_7cf53 a0 a1 = some r) : mI l yJ9_max_7cf53 cJ9_max_7cf53 2 (some .int) { frames := 0, cells := 0, slots := 0, locals := 0 } G adr [.int (Int32.ofInt a0), .int (Int32.ofInt a1)] (tm M) sz (Int32.ofInt r) (tm M) := by
  refine wEnterF (by decide +kernel) (Nat.le_of_ble_eq_true rfl) ?_
  intro p e s m below meth c ls cx hinit hl hsz hw
  exact b_J9_max_7cf53 cx hi h (fun pc ls H locs hd hw => w_iret (post := fun (r9 : Int32) (u : Mem) => r9 = Int32.ofInt r ∧ u = tm M) (lf := fun u => (LL adr, wf G adr u)) cx.1 cx.2.1 cx.2.2.1 cx.2.2.2.2.2.2 (tm M) hw ⟨rfl, rfl⟩ hd) hl hw
def f_J9_max_f86c9 (a0 : Int) (a1 : Int) : Option Int :=
  Option.bind (
    Option.bind (gJ a0 a1) fun _ =>
    if a0 < a1 then
      some a1
    else
      some a0) fun v1 =>
  some v1
set_option maxRecDepth 100000 in
set_option maxHeartbeats 8000000 in
theorem b_J9_max_f86c9 {p : Program} {l : Launch} {e : Env} {s : State} {m : MethodId} {args : Array Value} {below : List Frame} {meth : Method} {c : Code} {Q : State → Prop} {G : gG} {A : Nat → Prop} {adr : Nat → Nat} (cx : cX p s m args meth c cJ9_max_f86c9 (some .long) 4 yJ9_max_f86c9.cls) (hi : adi adr) {a0 : Int} {a1 : Int} {M : MI} {r : Int} 
    (h : f_J9_max_f86c9 a0 a1 = some r)
    (kr : ∀ (pc : Nat) (ls : Array Slot) (H : Heap) (locs : List Loc), decode cJ9_max_f86c9 pc = .ok (.lreturn, 1) → wH G A s.heap s (LL adr) (wf G adr (tm M)) H locs → W p l e { frames := 0, cells := 0, slots := 0, locals := 0 } s m args below meth c H locs 0 0 Q (F0 m pc ls [.long (Int64.ofInt r)]))
    {ls : Array Slot} {H : Heap} {locs : List Loc} (hl : lv_has ls 4 [(0, .long (Int64.ofInt a0)), (2, .long (Int64.ofInt a1))]) (hw : wH G A s.heap s (LL adr) (wf G adr (tm M)) H locs) : W p l e { frames := 0, cells := 0, slots := 0, locals := 0 } s m args below meth c H locs 0 0 Q (F0 m 0 ls []) := by
  obtain ⟨hx, hb, -, -, hown, hts, -⟩ := id cx
  have hown : s.vm.findClass RJ9 = some m.cls := hown
  unfold f_J9_max_f86c9 at h
  refine lv_lload_n hx hb dJ9_max_f86c9_0 rfl (lv_at hl 0 rfl) ?_
  refine lv_lload_n hx hb dJ9_max_f86c9_1 rfl (lv_at hl 1 rfl) ?_
  replace h := bnd h
  obtain ⟨v1, j2, h⟩ := h
  have kj : ∀ (ls : Array Slot) (H : Heap) (locs : List Loc), lv_has ls 4 [] → wH G A s.heap s (LL adr) (wf G adr (tm M)) H locs → W p l e { frames := 0, cells := 0, slots := 0, locals := 0 } s m args below meth c H locs 0 0 Q (F0 m 11 ls [.long (Int64.ofInt v1)]) := by
    intro ls H locs hl hw
    cases h
    exact kr _ _ _ _ dJ9_max_f86c9_11 hw
  clear h
  replace h := j2
  clear j2
  replace h := bnd h
  obtain ⟨_, hg, h⟩ := h
  refine o_lcmp_lt (tgt := 10) hx hb hg dJ9_max_f86c9_2 dJ9_max_f86c9_3 (by decide) (fun hc => ?_) (fun hc => ?_)
  · replace h := ite_t hc h
    refine lv_lload_n hx hb dJ9_max_f86c9_10 rfl (lv_at hl 1 rfl) ?_
    cases h
    exact kj _ _ _ (lv_sub hl [] rfl) hw
  · replace h := ite_f hc h
    refine lv_lload_n hx hb dJ9_max_f86c9_6 rfl (lv_at hl 0 rfl) ?_
    refine lv_goto (tgt := 11) hx hb dJ9_max_f86c9_7 (by decide) ?_
    cases h
    exact kj _ _ _ (lv_sub hl [] rfl) hw
theorem cc_J9_max_f86c9 {l : Launch} {G : gG} {adr : Nat → Nat} {sz : Nat} (hi : adi adr) {a0 : Int} {a1 : Int} {M : MI} {r : Int} (h : f_J9_max_f86c9 a0 a1 = some r) : mL l yJ9_max_f86c9 cJ9_max_f86c9 4 (some .long) { frames := 0, cells := 0, slots := 0, locals := 0 } G adr [.long (Int64.ofInt a0), .long (Int64.ofInt a1)] (tm M) sz (Int64.ofInt r) (tm M) := by
  refine wEnterF (by decide +kernel) (Nat.le_of_ble_eq_true rfl) ?_
  intro p e s m below meth c ls cx hinit hl hsz hw
  exact b_J9_max_f86c9 cx hi h (fun pc ls H locs hd hw => w_lret (post := fun (r9 : Int64) (u : Mem) => r9 = Int64.ofInt r ∧ u = tm M) (lf := fun u => (LL adr, wf G adr u)) cx.1 cx.2.1 cx.2.2.1 cx.2.2.2.2.2.2 (tm M) hw ⟨rfl, rfl⟩ hd) hl hw
def f_J9_min_f86c9 (a0 : Int) (a1 : Int) : Option Int :=
  Option.bind (
    Option.bind (gJ a0 a1) fun _ =>
    if a1 < a0 then
      some a1
    else
      some a0) fun v1 =>
  some v1
set_option maxRecDepth 100000 in
set_option maxHeartbeats 8000000 in
theorem b_J9_min_f86c9 {p : Program} {l : Launch} {e : Env} {s : State} {m : MethodId} {args : Array Value} {below : List Frame} {meth : Method} {c : Code} {Q : State → Prop} {G : gG} {A : Nat → Prop} {adr : Nat → Nat} (cx : cX p s m args meth c cJ9_min_f86c9 (some .long) 4 yJ9_min_f86c9.cls) (hi : adi adr) {a0 : Int} {a1 : Int} {M : MI} {r : Int} 
    (h : f_J9_min_f86c9 a0 a1 = some r)
    (kr : ∀ (pc : Nat) (ls : Array Slot) (H : Heap) (locs : List Loc), decode cJ9_min_f86c9 pc = .ok (.lreturn, 1) → wH G A s.heap s (LL adr) (wf G adr (tm M)) H locs → W p l e { frames := 0, cells := 0, slots := 0, locals := 0 } s m args below meth c H locs 0 0 Q (F0 m pc ls [.long (Int64.ofInt r)]))
    {ls : Array Slot} {H : Heap} {locs : List Loc} (hl : lv_has ls 4 [(0, .long (Int64.ofInt a0)), (2, .long (Int64.ofInt a1))]) (hw : wH G A s.heap s (LL adr) (wf G adr (tm M)) H locs) : W p l e { frames := 0, cells := 0, slots := 0, locals := 0 } s m args below meth c H locs 0 0 Q (F0 m 0 ls []) := by
  obtain ⟨hx, hb, -, -, hown, hts, -⟩ := id cx
  have hown : s.vm.findClass RJ9 = some m.cls := hown
  unfold f_J9_min_f86c9 at h
  refine lv_lload_n hx hb dJ9_min_f86c9_0 rfl (lv_at hl 0 rfl) ?_
  refine lv_lload_n hx hb dJ9_min_f86c9_1 rfl (lv_at hl 1 rfl) ?_
  replace h := bnd h
  obtain ⟨v1, j2, h⟩ := h
  have kj : ∀ (ls : Array Slot) (H : Heap) (locs : List Loc), lv_has ls 4 [] → wH G A s.heap s (LL adr) (wf G adr (tm M)) H locs → W p l e { frames := 0, cells := 0, slots := 0, locals := 0 } s m args below meth c H locs 0 0 Q (F0 m 11 ls [.long (Int64.ofInt v1)]) := by
    intro ls H locs hl hw
    cases h
    exact kr _ _ _ _ dJ9_min_f86c9_11 hw
  clear h
  replace h := j2
  clear j2
  replace h := bnd h
  obtain ⟨_, hg, h⟩ := h
  refine o_lcmp_gt (tgt := 10) hx hb hg dJ9_min_f86c9_2 dJ9_min_f86c9_3 (by decide) (fun hc => ?_) (fun hc => ?_)
  · replace h := ite_t hc h
    refine lv_lload_n hx hb dJ9_min_f86c9_10 rfl (lv_at hl 1 rfl) ?_
    cases h
    exact kj _ _ _ (lv_sub hl [] rfl) hw
  · replace h := ite_f hc h
    refine lv_lload_n hx hb dJ9_min_f86c9_6 rfl (lv_at hl 0 rfl) ?_
    refine lv_goto (tgt := 11) hx hb dJ9_min_f86c9_7 (by decide) ?_
    cases h
    exact kj _ _ _ (lv_sub hl [] rfl) hw
theorem cc_J9_min_f86c9 {l : Launch} {G : gG} {adr : Nat → Nat} {sz : Nat} (hi : adi adr) {a0 : Int} {a1 : Int} {M : MI} {r : Int} (h : f_J9_min_f86c9 a0 a1 = some r) : mL l yJ9_min_f86c9 cJ9_min_f86c9 4 (some .long) { frames := 0, cells := 0, slots := 0, locals := 0 } G adr [.long (Int64.ofInt a0), .long (Int64.ofInt a1)] (tm M) sz (Int64.ofInt r) (tm M) := by
  refine wEnterF (by decide +kernel) (Nat.le_of_ble_eq_true rfl) ?_
  intro p e s m below meth c ls cx hinit hl hsz hw
  exact b_J9_min_f86c9 cx hi h (fun pc ls H locs hd hw => w_lret (post := fun (r9 : Int64) (u : Mem) => r9 = Int64.ofInt r ∧ u = tm M) (lf := fun u => (LL adr, wf G adr u)) cx.1 cx.2.1 cx.2.2.1 cx.2.2.2.2.2.2 (tm M) hw ⟨rfl, rfl⟩ hd) hl hw
def f_J9_floorMod_7cf53 (a0 : Int) (a1 : Int) : Option Int :=
  Option.bind (orI a0 a1) fun v1 =>
  Option.bind (gI (oxorI a0 a1) 0) fun _ =>
  if 0 ≤ (oxorI a0 a1) then
    some v1
  else
    Option.bind (gI v1 0) fun _ =>
    if v1 = 0 then
      some v1
    else
      some (v1 + a1)
set_option maxRecDepth 100000 in
set_option maxHeartbeats 8000000 in
theorem b_J9_floorMod_7cf53 {p : Program} {l : Launch} {e : Env} {s : State} {m : MethodId} {args : Array Value} {below : List Frame} {meth : Method} {c : Code} {Q : State → Prop} {G : gG} {A : Nat → Prop} {adr : Nat → Nat} (cx : cX p s m args meth c cJ9_floorMod_7cf53 (some .int) 3 yJ9_floorMod_7cf53.cls) (hi : adi adr) {a0 : Int} {a1 : Int} {M : MI} {r : Int} 
    (h : f_J9_floorMod_7cf53 a0 a1 = some r)
    (kr : ∀ (pc : Nat) (ls : Array Slot) (H : Heap) (locs : List Loc), decode cJ9_floorMod_7cf53 pc = .ok (.ireturn, 1) → wH G A s.heap s (LL adr) (wf G adr (tm M)) H locs → W p l e { frames := 0, cells := 0, slots := 0, locals := 0 } s m args below meth c H locs 0 0 Q (F0 m pc ls [.int (Int32.ofInt r)]))
    {ls : Array Slot} {H : Heap} {locs : List Loc} (hl : lv_has ls 3 [(0, .int (Int32.ofInt a0)), (1, .int (Int32.ofInt a1))]) (hw : wH G A s.heap s (LL adr) (wf G adr (tm M)) H locs) : W p l e { frames := 0, cells := 0, slots := 0, locals := 0 } s m args below meth c H locs 0 0 Q (F0 m 0 ls []) := by
  obtain ⟨hx, hb, -, -, hown, hts, -⟩ := id cx
  have hown : s.vm.findClass RJ9 = some m.cls := hown
  unfold f_J9_floorMod_7cf53 at h
  refine lv_iload_n hx hb dJ9_floorMod_7cf53_0 rfl (lv_at hl 0 rfl) ?_
  refine lv_iload_n hx hb dJ9_floorMod_7cf53_1 rfl (lv_at hl 1 rfl) ?_
  replace h := bnd h
  obtain ⟨v1, e1, h⟩ := h
  refine o_irem hx hb e1 dJ9_floorMod_7cf53_2 ?_
  refine lv_istore_n (lv' := [(2, .int (Int32.ofInt v1)), (0, .int (Int32.ofInt a0)), (1, .int (Int32.ofInt a1))]) hx hb dJ9_floorMod_7cf53_3 rfl hl (by decide) rfl (fun ls hl => ?_)
  refine lv_iload_n hx hb dJ9_floorMod_7cf53_4 rfl (lv_at hl 1 rfl) ?_
  refine lv_iload_n hx hb dJ9_floorMod_7cf53_5 rfl (lv_at hl 2 rfl) ?_
  refine o_ixor hx hb dJ9_floorMod_7cf53_6 ?_
  replace h := bnd h
  obtain ⟨_, hg, h⟩ := h
  refine o_if_ge (tgt := 18) hx hb hg dJ9_floorMod_7cf53_7 (by decide) (fun hc => ?_) (fun hc => ?_)
  · replace h := ite_t hc h
    refine lv_iload_n hx hb dJ9_floorMod_7cf53_18 rfl (lv_at hl 0 rfl) ?_
    cases h
    exact kr _ _ _ _ dJ9_floorMod_7cf53_19 hw
  · replace h := ite_f hc h
    refine lv_iload_n hx hb dJ9_floorMod_7cf53_10 rfl (lv_at hl 0 rfl) ?_
    replace h := bnd h
    obtain ⟨_, hg, h⟩ := h
    refine o_if_eq (tgt := 18) hx hb hg dJ9_floorMod_7cf53_11 (by decide) (fun hc => ?_) (fun hc => ?_)
    · replace h := ite_t hc h
      refine lv_iload_n hx hb dJ9_floorMod_7cf53_18 rfl (lv_at hl 0 rfl) ?_
      cases h
      exact kr _ _ _ _ dJ9_floorMod_7cf53_19 hw
    · replace h := ite_f hc h
      refine lv_iload_n hx hb dJ9_floorMod_7cf53_14 rfl (lv_at hl 0 rfl) ?_
      refine lv_iload_n hx hb dJ9_floorMod_7cf53_15 rfl (lv_at hl 2 rfl) ?_
      refine o_iadd hx hb dJ9_floorMod_7cf53_16 ?_
      cases h
      exact kr _ _ _ _ dJ9_floorMod_7cf53_17 hw
theorem cc_J9_floorMod_7cf53 {l : Launch} {G : gG} {adr : Nat → Nat} {sz : Nat} (hi : adi adr) {a0 : Int} {a1 : Int} {M : MI} {r : Int} (h : f_J9_floorMod_7cf53 a0 a1 = some r) : mI l yJ9_floorMod_7cf53 cJ9_floorMod_7cf53 3 (some .int) { frames := 0, cells := 0, slots := 0, locals := 0 } G adr [.int (Int32.ofInt a0), .int (Int32.ofInt a1)] (tm M) sz (Int32.ofInt r) (tm M) := by
  refine wEnterF (by decide +kernel) (Nat.le_of_ble_eq_true rfl) ?_
  intro p e s m below meth c ls cx hinit hl hsz hw
  exact b_J9_floorMod_7cf53 cx hi h (fun pc ls H locs hd hw => w_iret (post := fun (r9 : Int32) (u : Mem) => r9 = Int32.ofInt r ∧ u = tm M) (lf := fun u => (LL adr, wf G adr u)) cx.1 cx.2.1 cx.2.2.1 cx.2.2.2.2.2.2 (tm M) hw ⟨rfl, rfl⟩ hd) hl hw
def f_J9_floorMod_f86c9 (a0 : Int) (a1 : Int) : Option Int :=
  Option.bind (orJ a0 a1) fun v1 =>
  Option.bind (gJ (oxorJ a0 a1) (0)) fun _ =>
  if (0) ≤ (oxorJ a0 a1) then
    some v1
  else
    Option.bind (gJ v1 (0)) fun _ =>
    if v1 = (0) then
      some v1
    else
      some (v1 + a1)
set_option maxRecDepth 100000 in
set_option maxHeartbeats 8000000 in
theorem b_J9_floorMod_f86c9 {p : Program} {l : Launch} {e : Env} {s : State} {m : MethodId} {args : Array Value} {below : List Frame} {meth : Method} {c : Code} {Q : State → Prop} {G : gG} {A : Nat → Prop} {adr : Nat → Nat} (cx : cX p s m args meth c cJ9_floorMod_f86c9 (some .long) 6 yJ9_floorMod_f86c9.cls) (hi : adi adr) {a0 : Int} {a1 : Int} {M : MI} {r : Int} 
    (h : f_J9_floorMod_f86c9 a0 a1 = some r)
    (kr : ∀ (pc : Nat) (ls : Array Slot) (H : Heap) (locs : List Loc), decode cJ9_floorMod_f86c9 pc = .ok (.lreturn, 1) → wH G A s.heap s (LL adr) (wf G adr (tm M)) H locs → W p l e { frames := 0, cells := 0, slots := 0, locals := 0 } s m args below meth c H locs 0 0 Q (F0 m pc ls [.long (Int64.ofInt r)]))
    {ls : Array Slot} {H : Heap} {locs : List Loc} (hl : lv_has ls 6 [(0, .long (Int64.ofInt a0)), (2, .long (Int64.ofInt a1))]) (hw : wH G A s.heap s (LL adr) (wf G adr (tm M)) H locs) : W p l e { frames := 0, cells := 0, slots := 0, locals := 0 } s m args below meth c H locs 0 0 Q (F0 m 0 ls []) := by
  obtain ⟨hx, hb, -, -, hown, hts, -⟩ := id cx
  have hown : s.vm.findClass RJ9 = some m.cls := hown
  unfold f_J9_floorMod_f86c9 at h
  refine lv_lload_n hx hb dJ9_floorMod_f86c9_0 rfl (lv_at hl 0 rfl) ?_
  refine lv_lload_n hx hb dJ9_floorMod_f86c9_1 rfl (lv_at hl 1 rfl) ?_
  replace h := bnd h
  obtain ⟨v1, e1, h⟩ := h
  refine o_lrem hx hb e1 dJ9_floorMod_f86c9_2 ?_
  refine lv_lstore (lv' := [(4, .long (Int64.ofInt v1)), (0, .long (Int64.ofInt a0)), (2, .long (Int64.ofInt a1))]) hx hb dJ9_floorMod_f86c9_3 hl (by decide) rfl (fun ls hl => ?_)
  refine lv_lload_n hx hb dJ9_floorMod_f86c9_5 rfl (lv_at hl 1 rfl) ?_
  refine lv_lload_n hx hb dJ9_floorMod_f86c9_6 rfl (lv_at hl 2 rfl) ?_
  refine o_lxor hx hb dJ9_floorMod_f86c9_7 ?_
  refine lv_lconst (v := Int64.ofInt (0)) hx hb dJ9_floorMod_f86c9_8 (by decide) ?_
  replace h := bnd h
  obtain ⟨_, hg, h⟩ := h
  refine o_lcmp_ge (tgt := 25) hx hb hg dJ9_floorMod_f86c9_9 dJ9_floorMod_f86c9_10 (by decide) (fun hc => ?_) (fun hc => ?_)
  · replace h := ite_t hc h
    refine lv_lload hx hb dJ9_floorMod_f86c9_25 (lv_at hl 0 rfl) ?_
    cases h
    exact kr _ _ _ _ dJ9_floorMod_f86c9_27 hw
  · replace h := ite_f hc h
    refine lv_lload hx hb dJ9_floorMod_f86c9_13 (lv_at hl 0 rfl) ?_
    refine lv_lconst (v := Int64.ofInt (0)) hx hb dJ9_floorMod_f86c9_15 (by decide) ?_
    replace h := bnd h
    obtain ⟨_, hg, h⟩ := h
    refine o_lcmp_eq (tgt := 25) hx hb hg dJ9_floorMod_f86c9_16 dJ9_floorMod_f86c9_17 (by decide) (fun hc => ?_) (fun hc => ?_)
    · replace h := ite_t hc h
      refine lv_lload hx hb dJ9_floorMod_f86c9_25 (lv_at hl 0 rfl) ?_
      cases h
      exact kr _ _ _ _ dJ9_floorMod_f86c9_27 hw
    · replace h := ite_f hc h
      refine lv_lload hx hb dJ9_floorMod_f86c9_20 (lv_at hl 0 rfl) ?_
      refine lv_lload_n hx hb dJ9_floorMod_f86c9_22 rfl (lv_at hl 2 rfl) ?_
      refine o_ladd hx hb dJ9_floorMod_f86c9_23 ?_
      cases h
      exact kr _ _ _ _ dJ9_floorMod_f86c9_24 hw
theorem cc_J9_floorMod_f86c9 {l : Launch} {G : gG} {adr : Nat → Nat} {sz : Nat} (hi : adi adr) {a0 : Int} {a1 : Int} {M : MI} {r : Int} (h : f_J9_floorMod_f86c9 a0 a1 = some r) : mL l yJ9_floorMod_f86c9 cJ9_floorMod_f86c9 6 (some .long) { frames := 0, cells := 0, slots := 0, locals := 0 } G adr [.long (Int64.ofInt a0), .long (Int64.ofInt a1)] (tm M) sz (Int64.ofInt r) (tm M) := by
  refine wEnterF (by decide +kernel) (Nat.le_of_ble_eq_true rfl) ?_
  intro p e s m below meth c ls cx hinit hl hsz hw
  exact b_J9_floorMod_f86c9 cx hi h (fun pc ls H locs hd hw => w_lret (post := fun (r9 : Int64) (u : Mem) => r9 = Int64.ofInt r ∧ u = tm M) (lf := fun u => (LL adr, wf G adr u)) cx.1 cx.2.1 cx.2.2.1 cx.2.2.2.2.2.2 (tm M) hw ⟨rfl, rfl⟩ hd) hl hw
theorem q_238 : Cond.constant RJ6 265 (1431655765) ∈ uU := uU_in (by decide +kernel) (by decide +kernel)
theorem q_239 : Cond.constant RJ6 266 (858993459) ∈ uU := uU_in (by decide +kernel) (by decide +kernel)
theorem q_240 : Cond.constant RJ6 267 (252645135) ∈ uU := uU_in (by decide +kernel) (by decide +kernel)
def f_J6_bitCount_0f7a4 (a0 : Int) : Option Int :=
  some (oandI (((oandI (((oandI (a0 - (oandI (oushrI a0 (1)) (1431655765))) (858993459)) + (oandI (oushrI (a0 - (oandI (oushrI a0 (1)) (1431655765))) (2)) (858993459))) + (oushrI ((oandI (a0 - (oandI (oushrI a0 (1)) (1431655765))) (858993459)) + (oandI (oushrI (a0 - (oandI (oushrI a0 (1)) (1431655765))) (2)) (858993459))) (4))) (252645135)) + (oushrI (oandI (((oandI (a0 - (oandI (oushrI a0 (1)) (1431655765))) (858993459)) + (oandI (oushrI (a0 - (oandI (oushrI a0 (1)) (1431655765))) (2)) (858993459))) + (oushrI ((oandI (a0 - (oandI (oushrI a0 (1)) (1431655765))) (858993459)) + (oandI (oushrI (a0 - (oandI (oushrI a0 (1)) (1431655765))) (2)) (858993459))) (4))) (252645135)) (8))) + (oushrI ((oandI (((oandI (a0 - (oandI (oushrI a0 (1)) (1431655765))) (858993459)) + (oandI (oushrI (a0 - (oandI (oushrI a0 (1)) (1431655765))) (2)) (858993459))) + (oushrI ((oandI (a0 - (oandI (oushrI a0 (1)) (1431655765))) (858993459)) + (oandI (oushrI (a0 - (oandI (oushrI a0 (1)) (1431655765))) (2)) (858993459))) (4))) (252645135)) + (oushrI (oandI (((oandI (a0 - (oandI (oushrI a0 (1)) (1431655765))) (858993459)) + (oandI (oushrI (a0 - (oandI (oushrI a0 (1)) (1431655765))) (2)) (858993459))) + (oushrI ((oandI (a0 - (oandI (oushrI a0 (1)) (1431655765))) (858993459)) + (oandI (oushrI (a0 - (oandI (oushrI a0 (1)) (1431655765))) (2)) (858993459))) (4))) (252645135)) (8))) (16))) (63))
set_option maxRecDepth 100000 in
set_option maxHeartbeats 8000000 in
theorem b_J6_bitCount_0f7a4 {p : Program} {l : Launch} {e : Env} {s : State} {m : MethodId} {args : Array Value} {below : List Frame} {meth : Method} {c : Code} {Q : State → Prop} {G : gG} {A : Nat → Prop} {adr : Nat → Nat} (cx : cX p s m args meth c cJ6_bitCount_0f7a4 (some .int) 1 yJ6_bitCount_0f7a4.cls) (hi : adi adr) {a0 : Int} {M : MI} {r : Int} 
    (h : f_J6_bitCount_0f7a4 a0 = some r)
    (kr : ∀ (pc : Nat) (ls : Array Slot) (H : Heap) (locs : List Loc), decode cJ6_bitCount_0f7a4 pc = .ok (.ireturn, 1) → wH G A s.heap s (LL adr) (wf G adr (tm M)) H locs → W p l e { frames := 0, cells := 0, slots := 0, locals := 0 } s m args below meth c H locs 0 0 Q (F0 m pc ls [.int (Int32.ofInt r)]))
    {ls : Array Slot} {H : Heap} {locs : List Loc} (hl : lv_has ls 1 [(0, .int (Int32.ofInt a0))]) (hw : wH G A s.heap s (LL adr) (wf G adr (tm M)) H locs) : W p l e { frames := 0, cells := 0, slots := 0, locals := 0 } s m args below meth c H locs 0 0 Q (F0 m 0 ls []) := by
  obtain ⟨hx, hb, -, -, hown, hts, -⟩ := id cx
  have hown : s.vm.findClass RJ6 = some m.cls := hown
  unfold f_J6_bitCount_0f7a4 at h
  refine lv_iload_n hx hb dJ6_bitCount_0f7a4_0 rfl (lv_at hl 0 rfl) ?_
  refine lv_iload_n hx hb dJ6_bitCount_0f7a4_1 rfl (lv_at hl 0 rfl) ?_
  refine lv_iconst (v := Int32.ofInt (1)) hx hb dJ6_bitCount_0f7a4_2 rfl ?_
  refine o_iushr hx hb dJ6_bitCount_0f7a4_3 ?_
  refine lv_ldcw (v := Int32.ofInt (1431655765)) hx hb hown (hts _ q_238) dJ6_bitCount_0f7a4_4 ?_
  refine o_iand hx hb dJ6_bitCount_0f7a4_7 ?_
  refine o_isub hx hb dJ6_bitCount_0f7a4_8 ?_
  refine lv_istore_n (lv' := [(0, .int (Int32.ofInt (a0 - (oandI (oushrI a0 (1)) (1431655765)))))]) hx hb dJ6_bitCount_0f7a4_9 rfl hl (by decide) rfl (fun ls hl => ?_)
  refine lv_iload_n hx hb dJ6_bitCount_0f7a4_10 rfl (lv_at hl 0 rfl) ?_
  refine lv_ldcw (v := Int32.ofInt (858993459)) hx hb hown (hts _ q_239) dJ6_bitCount_0f7a4_11 ?_
  refine o_iand hx hb dJ6_bitCount_0f7a4_14 ?_
  refine lv_iload_n hx hb dJ6_bitCount_0f7a4_15 rfl (lv_at hl 0 rfl) ?_
  refine lv_iconst (v := Int32.ofInt (2)) hx hb dJ6_bitCount_0f7a4_16 rfl ?_
  refine o_iushr hx hb dJ6_bitCount_0f7a4_17 ?_
  refine lv_ldcw (v := Int32.ofInt (858993459)) hx hb hown (hts _ q_239) dJ6_bitCount_0f7a4_18 ?_
  refine o_iand hx hb dJ6_bitCount_0f7a4_21 ?_
  refine o_iadd hx hb dJ6_bitCount_0f7a4_22 ?_
  refine lv_istore_n (lv' := [(0, .int (Int32.ofInt ((oandI (a0 - (oandI (oushrI a0 (1)) (1431655765))) (858993459)) + (oandI (oushrI (a0 - (oandI (oushrI a0 (1)) (1431655765))) (2)) (858993459)))))]) hx hb dJ6_bitCount_0f7a4_23 rfl hl (by decide) rfl (fun ls hl => ?_)
  refine lv_iload_n hx hb dJ6_bitCount_0f7a4_24 rfl (lv_at hl 0 rfl) ?_
  refine lv_iload_n hx hb dJ6_bitCount_0f7a4_25 rfl (lv_at hl 0 rfl) ?_
  refine lv_iconst (v := Int32.ofInt (4)) hx hb dJ6_bitCount_0f7a4_26 rfl ?_
  refine o_iushr hx hb dJ6_bitCount_0f7a4_27 ?_
  refine o_iadd hx hb dJ6_bitCount_0f7a4_28 ?_
  refine lv_ldcw (v := Int32.ofInt (252645135)) hx hb hown (hts _ q_240) dJ6_bitCount_0f7a4_29 ?_
  refine o_iand hx hb dJ6_bitCount_0f7a4_32 ?_
  refine lv_istore_n (lv' := [(0, .int (Int32.ofInt (oandI (((oandI (a0 - (oandI (oushrI a0 (1)) (1431655765))) (858993459)) + (oandI (oushrI (a0 - (oandI (oushrI a0 (1)) (1431655765))) (2)) (858993459))) + (oushrI ((oandI (a0 - (oandI (oushrI a0 (1)) (1431655765))) (858993459)) + (oandI (oushrI (a0 - (oandI (oushrI a0 (1)) (1431655765))) (2)) (858993459))) (4))) (252645135))))]) hx hb dJ6_bitCount_0f7a4_33 rfl hl (by decide) rfl (fun ls hl => ?_)
  refine lv_iload_n hx hb dJ6_bitCount_0f7a4_34 rfl (lv_at hl 0 rfl) ?_
  refine lv_iload_n hx hb dJ6_bitCount_0f7a4_35 rfl (lv_at hl 0 rfl) ?_
  refine lv_bipush (v := Int32.ofInt (8)) hx hb dJ6_bitCount_0f7a4_36 rfl ?_
  refine o_iushr hx hb dJ6_bitCount_0f7a4_38 ?_
  refine o_iadd hx hb dJ6_bitCount_0f7a4_39 ?_
  refine lv_istore_n (lv' := [(0, .int (Int32.ofInt ((oandI (((oandI (a0 - (oandI (oushrI a0 (1)) (1431655765))) (858993459)) + (oandI (oushrI (a0 - (oandI (oushrI a0 (1)) (1431655765))) (2)) (858993459))) + (oushrI ((oandI (a0 - (oandI (oushrI a0 (1)) (1431655765))) (858993459)) + (oandI (oushrI (a0 - (oandI (oushrI a0 (1)) (1431655765))) (2)) (858993459))) (4))) (252645135)) + (oushrI (oandI (((oandI (a0 - (oandI (oushrI a0 (1)) (1431655765))) (858993459)) + (oandI (oushrI (a0 - (oandI (oushrI a0 (1)) (1431655765))) (2)) (858993459))) + (oushrI ((oandI (a0 - (oandI (oushrI a0 (1)) (1431655765))) (858993459)) + (oandI (oushrI (a0 - (oandI (oushrI a0 (1)) (1431655765))) (2)) (858993459))) (4))) (252645135)) (8)))))]) hx hb dJ6_bitCount_0f7a4_40 rfl hl (by decide) rfl (fun ls hl => ?_)
  refine lv_iload_n hx hb dJ6_bitCount_0f7a4_41 rfl (lv_at hl 0 rfl) ?_
  refine lv_iload_n hx hb dJ6_bitCount_0f7a4_42 rfl (lv_at hl 0 rfl) ?_
  refine lv_bipush (v := Int32.ofInt (16)) hx hb dJ6_bitCount_0f7a4_43 rfl ?_
  refine o_iushr hx hb dJ6_bitCount_0f7a4_45 ?_
  refine o_iadd hx hb dJ6_bitCount_0f7a4_46 ?_
  refine lv_istore_n (lv' := [(0, .int (Int32.ofInt (((oandI (((oandI (a0 - (oandI (oushrI a0 (1)) (1431655765))) (858993459)) + (oandI (oushrI (a0 - (oandI (oushrI a0 (1)) (1431655765))) (2)) (858993459))) + (oushrI ((oandI (a0 - (oandI (oushrI a0 (1)) (1431655765))) (858993459)) + (oandI (oushrI (a0 - (oandI (oushrI a0 (1)) (1431655765))) (2)) (858993459))) (4))) (252645135)) + (oushrI (oandI (((oandI (a0 - (oandI (oushrI a0 (1)) (1431655765))) (858993459)) + (oandI (oushrI (a0 - (oandI (oushrI a0 (1)) (1431655765))) (2)) (858993459))) + (oushrI ((oandI (a0 - (oandI (oushrI a0 (1)) (1431655765))) (858993459)) + (oandI (oushrI (a0 - (oandI (oushrI a0 (1)) (1431655765))) (2)) (858993459))) (4))) (252645135)) (8))) + (oushrI ((oandI (((oandI (a0 - (oandI (oushrI a0 (1)) (1431655765))) (858993459)) + (oandI (oushrI (a0 - (oandI (oushrI a0 (1)) (1431655765))) (2)) (858993459))) + (oushrI ((oandI (a0 - (oandI (oushrI a0 (1)) (1431655765))) (858993459)) + (oandI (oushrI (a0 - (oandI (oushrI a0 (1)) (1431655765))) (2)) (858993459))) (4))) (252645135)) + (oushrI (oandI (((oandI (a0 - (oandI (oushrI a0 (1)) (1431655765))) (858993459)) + (oandI (oushrI (a0 - (oandI (oushrI a0 (1)) (1431655765))) (2)) (858993459))) + (oushrI ((oandI (a0 - (oandI (oushrI a0 (1)) (1431655765))) (858993459)) + (oandI (oushrI (a0 - (oandI (oushrI a0 (1)) (1431655765))) (2)) (858993459))) (4))) (252645135)) (8))) (16)))))]) hx hb dJ6_bitCount_0f7a4_47 rfl hl (by decide) rfl (fun ls hl => ?_)
  refine lv_iload_n hx hb dJ6_bitCount_0f7a4_48 rfl (lv_at hl 0 rfl) ?_
  refine lv_bipush (v := Int32.ofInt (63)) hx hb dJ6_bitCount_0f7a4_49 rfl ?_
  refine o_iand hx hb dJ6_bitCount_0f7a4_51 ?_
  cases h
  exact kr _ _ _ _ dJ6_bitCount_0f7a4_52 hw
theorem cc_J6_bitCount_0f7a4 {l : Launch} {G : gG} {adr : Nat → Nat} {sz : Nat} (hi : adi adr) {a0 : Int} {M : MI} {r : Int} (h : f_J6_bitCount_0f7a4 a0 = some r) : mI l yJ6_bitCount_0f7a4 cJ6_bitCount_0f7a4 1 (some .int) { frames := 0, cells := 0, slots := 0, locals := 0 } G adr [.int (Int32.ofInt a0)] (tm M) sz (Int32.ofInt r) (tm M) := by
  refine wEnterF (by decide +kernel) (Nat.le_of_ble_eq_true rfl) ?_
  intro p e s m below meth c ls cx hinit hl hsz hw
  exact b_J6_bitCount_0f7a4 cx hi h (fun pc ls H locs hd hw => w_iret (post := fun (r9 : Int32) (u : Mem) => r9 = Int32.ofInt r ∧ u = tm M) (lf := fun u => (LL adr, wf G adr u)) cx.1 cx.2.1 cx.2.2.1 cx.2.2.2.2.2.2 (tm M) hw ⟨rfl, rfl⟩ hd) hl hw
def l_J7_fill_d0a16_6 (a0 : Nat) (a1 : Int) (v1 : Int) : MI × Int → Option ((MI) ⊕ (MI × Int)) := fun (M2, v3) =>
  Option.bind (gI v3 v1) fun _ =>
  if v1 ≤ v3 then
    some (.inl M2)
  else
    Option.bind (osJ M2 a0 v3 a1) fun v4 =>
    some (.inr (v4, v3 + 1))
def f_J7_fill_d0a16 (n : Nat) (a0 : Nat) (a1 : Int) (M : MI) : Option MI :=
  Option.bind (olA a0) fun v1 =>
  Option.bind (lpF (l_J7_fill_d0a16_6 a0 a1 v1) n (M, (0))) fun M6 =>
  some M6
set_option maxRecDepth 100000 in
set_option maxHeartbeats 8000000 in
theorem b_J7_fill_d0a16 {p : Program} {l : Launch} {e : Env} {s : State} {m : MethodId} {args : Array Value} {below : List Frame} {meth : Method} {c : Code} {Q : State → Prop} {G : gG} {A : Nat → Prop} {adr : Nat → Nat} (cx : cX p s m args meth c cJ7_fill_d0a16 none 5 yJ7_fill_d0a16.cls) (hi : adi adr) {n : Nat} {a0 : Nat} {a1 : Int} {M M' : MI} 
    (h : f_J7_fill_d0a16 n a0 a1 M = some M')
    (kr : ∀ (pc : Nat) (ls : Array Slot) (H : Heap) (locs : List Loc), decode cJ7_fill_d0a16 pc = .ok (.return_, 1) → wH G A s.heap s (LL adr) (wf G adr (tm M')) H locs → W p l e { frames := 0, cells := 0, slots := 0, locals := 0 } s m args below meth c H locs 0 0 Q (F0 m pc ls []))
    {ls : Array Slot} {H : Heap} {locs : List Loc} (hl : lv_has ls 5 [(0, .ref (adr a0)), (1, .long (Int64.ofInt a1))]) (hw : wH G A s.heap s (LL adr) (wf G adr (tm M)) H locs) : W p l e { frames := 0, cells := 0, slots := 0, locals := 0 } s m args below meth c H locs 0 0 Q (F0 m 0 ls []) := by
  obtain ⟨hx, hb, -, -, hown, hts, -⟩ := id cx
  have hown : s.vm.findClass RJ7 = some m.cls := hown
  unfold f_J7_fill_d0a16 at h
  refine lv_iconst (v := Int32.ofInt (0)) hx hb dJ7_fill_d0a16_0 rfl ?_
  refine lv_istore_n (lv' := [(3, .int (Int32.ofInt (0))), (0, .ref (adr a0)), (1, .long (Int64.ofInt a1))]) hx hb dJ7_fill_d0a16_1 rfl hl (by decide) rfl (fun ls hl => ?_)
  refine lv_aload_n hx hb dJ7_fill_d0a16_2 rfl (lv_at hl 1 rfl) ?_
  replace h := bnd h
  obtain ⟨v1, e1, h⟩ := h
  refine o_len hx hb hi hw e1 dJ7_fill_d0a16_3 ?_
  refine lv_istore (lv' := [(4, .int (Int32.ofInt v1)), (3, .int (Int32.ofInt (0))), (0, .ref (adr a0)), (1, .long (Int64.ofInt a1))]) hx hb dJ7_fill_d0a16_4 hl (by decide) rfl (fun ls hl => ?_)
  replace h := bnd h
  obtain ⟨M6, j5, h⟩ := h
  refine lp_W (Wst := fun (st : MI × Int) => ∀ (ls : Array Slot) (H : Heap) (locs : List Loc), lv_has ls 5 [(0, .ref (adr a0)), (1, .long (Int64.ofInt a1)), (3, .int (Int32.ofInt st.2)), (4, .int (Int32.ofInt v1))] → wH G A s.heap s (LL adr) (wf G adr (tm st.1)) H locs → W p l e { frames := 0, cells := 0, slots := 0, locals := 0 } s m args below meth c H locs 0 0 Q (F0 m 6 ls [])) (fin := fun (r : MI) => ∀ (ls : Array Slot) (H : Heap) (locs : List Loc), lv_has ls 5 [] → wH G A s.heap s (LL adr) (wf G adr (tm r)) H locs → W p l e { frames := 0, cells := 0, slots := 0, locals := 0 } s m args below meth c H locs 0 0 Q (F0 m 22 ls [])) ?_ n _ _ j5 ?_ _ _ _ (lv_sub hl [2, 3, 1, 0] rfl) hw
  · clear h j5 hw hl
    intro ⟨M2, v3⟩ x h k1 k2 ls H locs hl hw
    (try dsimp only at k1 k2 hl hw ⊢)
    unfold l_J7_fill_d0a16_6 at h
    (try dsimp only at h)
    refine lv_iload_n hx hb dJ7_fill_d0a16_6 rfl (lv_at hl 2 rfl) ?_
    refine lv_iload hx hb dJ7_fill_d0a16_7 (lv_at hl 3 rfl) ?_
    replace h := bnd h
    obtain ⟨_, hg, h⟩ := h
    refine o_icmp_ge (tgt := 22) hx hb hg dJ7_fill_d0a16_9 (by decide) (fun hc => ?_) (fun hc => ?_)
    · replace h := ite_t hc h
      cases h
      exact k1 _ rfl _ _ _ (lv_sub hl [] rfl) hw
    · replace h := ite_f hc h
      refine lv_aload_n hx hb dJ7_fill_d0a16_12 rfl (lv_at hl 0 rfl) ?_
      refine lv_iload_n hx hb dJ7_fill_d0a16_13 rfl (lv_at hl 2 rfl) ?_
      refine lv_lload_n hx hb dJ7_fill_d0a16_14 rfl (lv_at hl 1 rfl) ?_
      replace h := bnd h
      obtain ⟨v4, e4, h⟩ := h
      refine o_last hx hb hi hw e4 dJ7_fill_d0a16_15 (fun H locs hw => ?_)
      refine lv_iinc (v := Int32.ofInt (v3 + 1)) (lv' := [(3, .int (Int32.ofInt (v3 + 1))), (0, .ref (adr a0)), (1, .long (Int64.ofInt a1)), (4, .int (Int32.ofInt v1))]) hx hb dJ7_fill_d0a16_16 hl (k := 2) rfl (inc_o _ _) (by decide) rfl (fun ls hl => ?_)
      refine lv_goto (tgt := 6) hx hb dJ7_fill_d0a16_19 (by decide) ?_
      cases h
      exact k2 _ rfl _ _ _ (lv_sub hl [1, 2, 0, 3] rfl) hw
  · clear hw hl
    intro ls H locs hl hw
    (try dsimp only at hl hw ⊢)
    cases h
    exact kr _ _ _ _ dJ7_fill_d0a16_22 hw
theorem cc_J7_fill_d0a16 {l : Launch} {G : gG} {adr : Nat → Nat} {sz : Nat} (hi : adi adr) {n : Nat} {a0 : Nat} {a1 : Int} {M M' : MI} (h : f_J7_fill_d0a16 n a0 a1 M = some M') : mV l yJ7_fill_d0a16 cJ7_fill_d0a16 5 none { frames := 0, cells := 0, slots := 0, locals := 0 } G adr [.ref (adr a0), .long (Int64.ofInt a1)] (tm M) sz (tm M') := by
  refine wEnterF (by decide +kernel) (Nat.le_of_ble_eq_true rfl) ?_
  intro p e s m below meth c ls cx hinit hl hsz hw
  exact b_J7_fill_d0a16 cx hi h (fun pc ls H locs hd hw => w_vret (post := fun (u : Mem) => u = tm M') (lf := fun u => (LL adr, wf G adr u)) cx.1 cx.2.1 cx.2.2.1 cx.2.2.2.2.2.2 (tm M') hw rfl hd) hl hw
def l_J7_fill_53178_5 (a0 : Nat) (a1 : Int) (v1 : Int) : MI × Int → Option ((MI) ⊕ (MI × Int)) := fun (M2, v3) =>
  Option.bind (gI v3 v1) fun _ =>
  if v1 ≤ v3 then
    some (.inl M2)
  else
    Option.bind (osI M2 a0 v3 a1) fun v4 =>
    some (.inr (v4, v3 + 1))
def f_J7_fill_53178 (n : Nat) (a0 : Nat) (a1 : Int) (M : MI) : Option MI :=
  Option.bind (olA a0) fun v1 =>
  Option.bind (lpF (l_J7_fill_53178_5 a0 a1 v1) n (M, (0))) fun M6 =>
  some M6
set_option maxRecDepth 100000 in
set_option maxHeartbeats 8000000 in
theorem b_J7_fill_53178 {p : Program} {l : Launch} {e : Env} {s : State} {m : MethodId} {args : Array Value} {below : List Frame} {meth : Method} {c : Code} {Q : State → Prop} {G : gG} {A : Nat → Prop} {adr : Nat → Nat} (cx : cX p s m args meth c cJ7_fill_53178 none 4 yJ7_fill_53178.cls) (hi : adi adr) {n : Nat} {a0 : Nat} {a1 : Int} {M M' : MI} 
    (h : f_J7_fill_53178 n a0 a1 M = some M')
    (kr : ∀ (pc : Nat) (ls : Array Slot) (H : Heap) (locs : List Loc), decode cJ7_fill_53178 pc = .ok (.return_, 1) → wH G A s.heap s (LL adr) (wf G adr (tm M')) H locs → W p l e { frames := 0, cells := 0, slots := 0, locals := 0 } s m args below meth c H locs 0 0 Q (F0 m pc ls []))
    {ls : Array Slot} {H : Heap} {locs : List Loc} (hl : lv_has ls 4 [(0, .ref (adr a0)), (1, .int (Int32.ofInt a1))]) (hw : wH G A s.heap s (LL adr) (wf G adr (tm M)) H locs) : W p l e { frames := 0, cells := 0, slots := 0, locals := 0 } s m args below meth c H locs 0 0 Q (F0 m 0 ls []) := by
  obtain ⟨hx, hb, -, -, hown, hts, -⟩ := id cx
  have hown : s.vm.findClass RJ7 = some m.cls := hown
  unfold f_J7_fill_53178 at h
  refine lv_iconst (v := Int32.ofInt (0)) hx hb dJ7_fill_53178_0 rfl ?_
  refine lv_istore_n (lv' := [(2, .int (Int32.ofInt (0))), (0, .ref (adr a0)), (1, .int (Int32.ofInt a1))]) hx hb dJ7_fill_53178_1 rfl hl (by decide) rfl (fun ls hl => ?_)
  refine lv_aload_n hx hb dJ7_fill_53178_2 rfl (lv_at hl 1 rfl) ?_
  replace h := bnd h
  obtain ⟨v1, e1, h⟩ := h
  refine o_len hx hb hi hw e1 dJ7_fill_53178_3 ?_
  refine lv_istore_n (lv' := [(3, .int (Int32.ofInt v1)), (2, .int (Int32.ofInt (0))), (0, .ref (adr a0)), (1, .int (Int32.ofInt a1))]) hx hb dJ7_fill_53178_4 rfl hl (by decide) rfl (fun ls hl => ?_)
  replace h := bnd h
  obtain ⟨M6, j5, h⟩ := h
  refine lp_W (Wst := fun (st : MI × Int) => ∀ (ls : Array Slot) (H : Heap) (locs : List Loc), lv_has ls 4 [(0, .ref (adr a0)), (1, .int (Int32.ofInt a1)), (2, .int (Int32.ofInt st.2)), (3, .int (Int32.ofInt v1))] → wH G A s.heap s (LL adr) (wf G adr (tm st.1)) H locs → W p l e { frames := 0, cells := 0, slots := 0, locals := 0 } s m args below meth c H locs 0 0 Q (F0 m 5 ls [])) (fin := fun (r : MI) => ∀ (ls : Array Slot) (H : Heap) (locs : List Loc), lv_has ls 4 [] → wH G A s.heap s (LL adr) (wf G adr (tm r)) H locs → W p l e { frames := 0, cells := 0, slots := 0, locals := 0 } s m args below meth c H locs 0 0 Q (F0 m 20 ls [])) ?_ n _ _ j5 ?_ _ _ _ (lv_sub hl [2, 3, 1, 0] rfl) hw
  · clear h j5 hw hl
    intro ⟨M2, v3⟩ x h k1 k2 ls H locs hl hw
    (try dsimp only at k1 k2 hl hw ⊢)
    unfold l_J7_fill_53178_5 at h
    (try dsimp only at h)
    refine lv_iload_n hx hb dJ7_fill_53178_5 rfl (lv_at hl 2 rfl) ?_
    refine lv_iload_n hx hb dJ7_fill_53178_6 rfl (lv_at hl 3 rfl) ?_
    replace h := bnd h
    obtain ⟨_, hg, h⟩ := h
    refine o_icmp_ge (tgt := 20) hx hb hg dJ7_fill_53178_7 (by decide) (fun hc => ?_) (fun hc => ?_)
    · replace h := ite_t hc h
      cases h
      exact k1 _ rfl _ _ _ (lv_sub hl [] rfl) hw
    · replace h := ite_f hc h
      refine lv_aload_n hx hb dJ7_fill_53178_10 rfl (lv_at hl 0 rfl) ?_
      refine lv_iload_n hx hb dJ7_fill_53178_11 rfl (lv_at hl 2 rfl) ?_
      refine lv_iload_n hx hb dJ7_fill_53178_12 rfl (lv_at hl 1 rfl) ?_
      replace h := bnd h
      obtain ⟨v4, e4, h⟩ := h
      refine o_iast hx hb hi hw e4 dJ7_fill_53178_13 (fun H locs hw => ?_)
      refine lv_iinc (v := Int32.ofInt (v3 + 1)) (lv' := [(2, .int (Int32.ofInt (v3 + 1))), (0, .ref (adr a0)), (1, .int (Int32.ofInt a1)), (3, .int (Int32.ofInt v1))]) hx hb dJ7_fill_53178_14 hl (k := 2) rfl (inc_o _ _) (by decide) rfl (fun ls hl => ?_)
      refine lv_goto (tgt := 5) hx hb dJ7_fill_53178_17 (by decide) ?_
      cases h
      exact k2 _ rfl _ _ _ (lv_sub hl [1, 2, 0, 3] rfl) hw
  · clear hw hl
    intro ls H locs hl hw
    (try dsimp only at hl hw ⊢)
    cases h
    exact kr _ _ _ _ dJ7_fill_53178_20 hw
theorem cc_J7_fill_53178 {l : Launch} {G : gG} {adr : Nat → Nat} {sz : Nat} (hi : adi adr) {n : Nat} {a0 : Nat} {a1 : Int} {M M' : MI} (h : f_J7_fill_53178 n a0 a1 M = some M') : mV l yJ7_fill_53178 cJ7_fill_53178 4 none { frames := 0, cells := 0, slots := 0, locals := 0 } G adr [.ref (adr a0), .int (Int32.ofInt a1)] (tm M) sz (tm M') := by
  refine wEnterF (by decide +kernel) (Nat.le_of_ble_eq_true rfl) ?_
  intro p e s m below meth c ls cx hinit hl hsz hw
  exact b_J7_fill_53178 cx hi h (fun pc ls H locs hd hw => w_vret (post := fun (u : Mem) => u = tm M') (lf := fun u => (LL adr, wf G adr u)) cx.1 cx.2.1 cx.2.2.1 cx.2.2.2.2.2.2 (tm M') hw rfl hd) hl hw
