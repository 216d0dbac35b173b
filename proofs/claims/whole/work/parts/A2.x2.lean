def f_J9_floorModW (a0 : Int) (a1 : Int) : Option Int :=
  Option.bind (orW a0 a1) fun v1 =>
  Option.bind (gI (oxorI a0 a1) 0) fun _ =>
  if 0 ≤ (oxorI a0 a1) then
    some v1
  else
    Option.bind (gI v1 0) fun _ =>
    if v1 = 0 then
      some v1
    else
      some (v1 + a1)
set_option maxRecDepth 100000 in
set_option maxHeartbeats 8000000 in
theorem b_J9_floorModW {p : Program} {l : Launch} {e : Env} {s : State} {m : MethodId} {args : Array Value} {below : List Frame} {meth : Method} {c : Code} {Q : State → Prop} {G : gG} {A : Nat → Prop} {adr : Nat → Nat} (cx : cX p s m args meth c cJ9_floorMod_7cf53 (some .int) 3 yJ9_floorMod_7cf53.cls) (hi : adi adr) {a0 : Int} {a1 : Int} {M : MI} {r : Int} 
    (h : f_J9_floorModW a0 a1 = some r)
    (kr : ∀ (pc : Nat) (ls : Array Slot) (H : Heap) (locs : List Loc), decode cJ9_floorMod_7cf53 pc = .ok (.ireturn, 1) → wH G A s.heap s (LL adr) (wf G adr (tm M)) H locs → W p l e { frames := 0, cells := 0, slots := 0, locals := 0 } s m args below meth c H locs 0 0 Q (F0 m pc ls [.int (Int32.ofInt r)]))
    {ls : Array Slot} {H : Heap} {locs : List Loc} (hl : lv_has ls 3 [(0, .int (Int32.ofInt a0)), (1, .int (Int32.ofInt a1))]) (hw : wH G A s.heap s (LL adr) (wf G adr (tm M)) H locs) : W p l e { frames := 0, cells := 0, slots := 0, locals := 0 } s m args below meth c H locs 0 0 Q (F0 m 0 ls []) := by
  obtain ⟨hx, hb, -, -, hown, hts, -⟩ := id cx
  have hown : s.vm.findClass RJ9 = some m.cls := hown
  unfold f_J9_floorModW at h
  refine lv_iload_n hx hb dJ9_floorMod_7cf53_0 rfl (lv_at hl 0 rfl) ?_
  refine lv_iload_n hx hb dJ9_floorMod_7cf53_1 rfl (lv_at hl 1 rfl) ?_
  replace h := bnd h
  obtain ⟨v1, e1, h⟩ := h
  refine o_iremW hx hb e1 dJ9_floorMod_7cf53_2 ?_
  refine lv_istore_n (lv' := [(2, .int (Int32.ofInt v1)), (0, .int (Int32.ofInt a0)), (1, .int (Int32.ofInt a1))]) hx hb dJ9_floorMod_7cf53_3 rfl hl (by decide) rfl (fun ls hl => ?_)
  refine lv_iload_n hx hb dJ9_floorMod_7cf53_4 rfl (lv_at hl 1 rfl) ?_
  refine lv_iload_n hx hb dJ9_floorMod_7cf53_5 rfl (lv_at hl 2 rfl) ?_
  refine o_ixor hx hb dJ9_floorMod_7cf53_6 ?_
  replace h := bnd h
  obtain ⟨_, hg, h⟩ := h
  refine o_if_ge (tgt := 18) hx hb hg dJ9_floorMod_7cf53_7 (by decide) (fun hc => ?_) (fun hc => ?_)
  · replace h := ite_t hc h
    refine lv_iload_n hx hb dJ9_floorMod_7cf53_18 rfl (lv_at hl 0 rfl) ?_
    cases h
    exact kr _ _ _ _ dJ9_floorMod_7cf53_19 hw
  · replace h := ite_f hc h
    refine lv_iload_n hx hb dJ9_floorMod_7cf53_10 rfl (lv_at hl 0 rfl) ?_
    replace h := bnd h
    obtain ⟨_, hg, h⟩ := h
    refine o_if_eq (tgt := 18) hx hb hg dJ9_floorMod_7cf53_11 (by decide) (fun hc => ?_) (fun hc => ?_)
    · replace h := ite_t hc h
      refine lv_iload_n hx hb dJ9_floorMod_7cf53_18 rfl (lv_at hl 0 rfl) ?_
      cases h
      exact kr _ _ _ _ dJ9_floorMod_7cf53_19 hw
    · replace h := ite_f hc h
      refine lv_iload_n hx hb dJ9_floorMod_7cf53_14 rfl (lv_at hl 0 rfl) ?_
      refine lv_iload_n hx hb dJ9_floorMod_7cf53_15 rfl (lv_at hl 2 rfl) ?_
      refine o_iadd hx hb dJ9_floorMod_7cf53_16 ?_
      cases h
      exact kr _ _ _ _ dJ9_floorMod_7cf53_17 hw
theorem cc_J9_floorModW {l : Launch} {G : gG} {adr : Nat → Nat} {sz : Nat} (hi : adi adr) {a0 : Int} {a1 : Int} {M : MI} {r : Int} (h : f_J9_floorModW a0 a1 = some r) : mI l yJ9_floorMod_7cf53 cJ9_floorMod_7cf53 3 (some .int) { frames := 0, cells := 0, slots := 0, locals := 0 } G adr [.int (Int32.ofInt a0), .int (Int32.ofInt a1)] (tm M) sz (Int32.ofInt r) (tm M) := by
  refine wEnterF (by decide +kernel) (Nat.le_of_ble_eq_true rfl) ?_
  intro p e s m below meth c ls cx hinit hl hsz hw
  exact b_J9_floorModW cx hi h (fun pc ls H locs hd hw => w_iret (post := fun (r9 : Int32) (u : Mem) => r9 = Int32.ofInt r ∧ u = tm M) (lf := fun u => (LL adr, wf G adr u)) cx.1 cx.2.1 cx.2.2.1 cx.2.2.2.2.2.2 (tm M) hw ⟨rfl, rfl⟩ hd) hl hw
