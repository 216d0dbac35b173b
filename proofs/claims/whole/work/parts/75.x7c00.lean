def l_X7_isSmallPrime_15 (a0 : Int) : Int → Option (((Int) ⊕ (Unit)) ⊕ (Int)) := fun v1 =>
  Option.bind (gI (v1 * v1) a0) fun _ =>
  if a0 < (v1 * v1) then
    some (.inl (.inr ()))
  else
    Option.bind (orI a0 v1) fun v2 =>
    Option.bind (gI v2 0) fun _ =>
    if v2 = 0 then
      some (.inl (.inl (0)))
    else
      some (.inr (v1 + 1))
def f_X7_isSmallPrime (n : Nat) (a0 : Int) : Option Int :=
  Option.bind (gI a0 (2)) fun _ =>
  if a0 < (2) then
    some (0)
  else
    Option.bind (gI a0 (97)) fun _ =>
    if a0 ≤ (97) then
      Option.bind (lpF (l_X7_isSmallPrime_15 a0) n (2)) fun r => match r with
      | .inl o => some o
      | .inr () =>
        some (1)
    else
      some (0)
set_option maxRecDepth 100000 in
set_option maxHeartbeats 8000000 in
theorem b_X7_isSmallPrime {p : Program} {l : Launch} {e : Env} {s : State} {m : MethodId} {args : Array Value} {below : List Frame} {meth : Method} {c : Code} {Q : State → Prop} {G : gG} {A : Nat → Prop} {adr : Nat → Nat} (cx : cX p s m args meth c cX7_isSmallPrime (some .boolean) 2 yX7_isSmallPrime.cls) (hi : adi adr) {n : Nat} {a0 : Int} {M : MI} {r : Int} 
    (h : f_X7_isSmallPrime n a0 = some r)
    (kr : ∀ (pc : Nat) (ls : Array Slot) (H : Heap) (locs : List Loc), decode cX7_isSmallPrime pc = .ok (.ireturn, 1) → narrow .boolean (.int (Int32.ofInt r)) = .int (Int32.ofInt r) → wH G A s.heap s (LL adr) (wf G adr (tm M)) H locs → W p l e { frames := 0, cells := 0, slots := 0, locals := 0 } s m args below meth c H locs 0 0 Q (F0 m pc ls [.int (Int32.ofInt r)]))
    {ls : Array Slot} {H : Heap} {locs : List Loc} (hl : lv_has ls 2 [(0, .int (Int32.ofInt a0))]) (hw : wH G A s.heap s (LL adr) (wf G adr (tm M)) H locs) : W p l e { frames := 0, cells := 0, slots := 0, locals := 0 } s m args below meth c H locs 0 0 Q (F0 m 0 ls []) := by
  obtain ⟨hx, hb, -, -, hown, hts, -⟩ := id cx
  have hown : s.vm.findClass RX7 = some m.cls := hown
  unfold f_X7_isSmallPrime at h
  refine lv_iload_n hx hb dX7_isSmallPrime_0 rfl (lv_at hl 0 rfl) ?_
  refine lv_iconst (v := Int32.ofInt (2)) hx hb dX7_isSmallPrime_1 rfl ?_
  replace h := bnd h
  obtain ⟨_, hg, h⟩ := h
  refine o_icmp_lt (tgt := 11) hx hb hg dX7_isSmallPrime_2 (by decide) (fun hc => ?_) (fun hc => ?_)
  · replace h := ite_t hc h
    refine lv_iconst (v := Int32.ofInt (0)) hx hb dX7_isSmallPrime_11 rfl ?_
    cases h
    exact kr _ _ _ _ dX7_isSmallPrime_12 nb0 hw
  · replace h := ite_f hc h
    refine lv_iload_n hx hb dX7_isSmallPrime_5 rfl (lv_at hl 0 rfl) ?_
    refine lv_bipush (v := Int32.ofInt (97)) hx hb dX7_isSmallPrime_6 rfl ?_
    replace h := bnd h
    obtain ⟨_, hg, h⟩ := h
    refine o_icmp_le (tgt := 13) hx hb hg dX7_isSmallPrime_8 (by decide) (fun hc => ?_) (fun hc => ?_)
    · replace h := ite_t hc h
      refine lv_iconst (v := Int32.ofInt (2)) hx hb dX7_isSmallPrime_13 rfl ?_
      refine lv_istore_n (lv' := [(1, .int (Int32.ofInt (2))), (0, .int (Int32.ofInt a0))]) hx hb dX7_isSmallPrime_14 rfl hl (by decide) rfl (fun ls hl => ?_)
      replace h := bnd h
      obtain ⟨o4, j3, h⟩ := h
      refine lp_W (Wst := fun (st : Int) => ∀ (ls : Array Slot) (H : Heap) (locs : List Loc), lv_has ls 2 [(0, .int (Int32.ofInt a0)), (1, .int (Int32.ofInt st))] → wH G A s.heap s (LL adr) (wf G adr (tm M)) H locs → W p l e { frames := 0, cells := 0, slots := 0, locals := 0 } s m args below meth c H locs 0 0 Q (F0 m 15 ls [])) (fin := fun (r : (Int) ⊕ (Unit)) => match r with
      | .inl o => ∀ (pc : Nat) (ls : Array Slot) (H : Heap) (locs : List Loc), decode cX7_isSmallPrime pc = .ok (.ireturn, 1) → narrow .boolean (.int (Int32.ofInt o)) = .int (Int32.ofInt o) → wH G A s.heap s (LL adr) (wf G adr (tm M)) H locs → W p l e { frames := 0, cells := 0, slots := 0, locals := 0 } s m args below meth c H locs 0 0 Q (F0 m pc ls [.int (Int32.ofInt o)])
      | .inr q => ∀ (ls : Array Slot) (H : Heap) (locs : List Loc), lv_has ls 2 [] → wH G A s.heap s (LL adr) (wf G adr (tm M)) H locs → W p l e { frames := 0, cells := 0, slots := 0, locals := 0 } s m args below meth c H locs 0 0 Q (F0 m 36 ls [])) ?_ n _ _ j3 ?_ _ _ _ (lv_sub hl [1, 0] rfl) hw
      · clear h j3 hw hl
        intro v1 x h k1 k2 ls H locs hl hw
        (try dsimp only at k2 hl hw ⊢)
        unfold l_X7_isSmallPrime_15 at h
        (try dsimp only at h)
        refine lv_iload_n hx hb dX7_isSmallPrime_15 rfl (lv_at hl 1 rfl) ?_
        refine lv_iload_n hx hb dX7_isSmallPrime_16 rfl (lv_at hl 1 rfl) ?_
        refine o_imul hx hb dX7_isSmallPrime_17 ?_
        refine lv_iload_n hx hb dX7_isSmallPrime_18 rfl (lv_at hl 0 rfl) ?_
        replace h := bnd h
        obtain ⟨_, hg, h⟩ := h
        refine o_icmp_gt (tgt := 36) hx hb hg dX7_isSmallPrime_19 (by decide) (fun hc => ?_) (fun hc => ?_)
        · replace h := ite_t hc h
          cases h
          exact k1 _ rfl _ _ _ (lv_sub hl [] rfl) hw
        · replace h := ite_f hc h
          refine lv_iload_n hx hb dX7_isSmallPrime_22 rfl (lv_at hl 0 rfl) ?_
          refine lv_iload_n hx hb dX7_isSmallPrime_23 rfl (lv_at hl 1 rfl) ?_
          replace h := bnd h
          obtain ⟨v2, e2, h⟩ := h
          refine o_irem hx hb e2 dX7_isSmallPrime_24 ?_
          replace h := bnd h
          obtain ⟨_, hg, h⟩ := h
          refine o_if_ne (tgt := 30) hx hb hg dX7_isSmallPrime_25 (by decide) (fun hc => ?_) (fun hc => ?_)
          · replace h := ite_f hc h
            refine lv_iinc (v := Int32.ofInt (v1 + 1)) (lv' := [(1, .int (Int32.ofInt (v1 + 1))), (0, .int (Int32.ofInt a0))]) hx hb dX7_isSmallPrime_30 hl (k := 1) rfl (inc_o _ _) (by decide) rfl (fun ls hl => ?_)
            refine lv_goto (tgt := 15) hx hb dX7_isSmallPrime_33 (by decide) ?_
            cases h
            exact k2 _ rfl _ _ _ (lv_sub hl [1, 0] rfl) hw
          · replace h := ite_t hc h
            refine lv_iconst (v := Int32.ofInt (0)) hx hb dX7_isSmallPrime_28 rfl ?_
            cases h
            exact k1 _ rfl _ _ _ _ dX7_isSmallPrime_29 nb0 hw
      · clear hw hl j3
        rcases o4 with o9 | _
        · cases h
          exact kr
        · intro ls H locs hl hw
          (try dsimp only at h hl hw ⊢)
          refine lv_iconst (v := Int32.ofInt (1)) hx hb dX7_isSmallPrime_36 rfl ?_
          cases h
          exact kr _ _ _ _ dX7_isSmallPrime_37 nb1 hw
    · replace h := ite_f hc h
      refine lv_iconst (v := Int32.ofInt (0)) hx hb dX7_isSmallPrime_11 rfl ?_
      cases h
      exact kr _ _ _ _ dX7_isSmallPrime_12 nb0 hw
theorem cc_X7_isSmallPrime {l : Launch} {G : gG} {adr : Nat → Nat} {sz : Nat} (hi : adi adr) {n : Nat} {a0 : Int} {M : MI} {r : Int} (h : f_X7_isSmallPrime n a0 = some r) : mI l yX7_isSmallPrime cX7_isSmallPrime 2 (some .boolean) { frames := 0, cells := 0, slots := 0, locals := 0 } G adr [.int (Int32.ofInt a0)] (tm M) sz (Int32.ofInt r) (tm M) := by
  refine wEnter (by decide) (Nat.le_of_ble_eq_true rfl) ?_
  intro p e s m below meth c ls cx hinit hl hsz hw
  exact b_X7_isSmallPrime cx hi h (fun pc ls H locs hd hz hw => w_zret (post := fun (r9 : Int32) (u : Mem) => r9 = Int32.ofInt r ∧ u = tm M) (lf := fun u => (LL adr, wf G adr u)) cx.1 cx.2.1 cx.2.2.1 cx.2.2.2.2.2.2 hz (tm M) hw ⟨rfl, rfl⟩ hd) hl hw
theorem q_465 : Cond.constantLong RX7 241 (9999) ∈ uU := uU_in (by decide +kernel) (by decide +kernel)
def l_X7_isTooGreat_2 (a0 : Nat) (M : MI) : Int → Option (((Int) ⊕ (Unit)) ⊕ (Int)) := fun v1 =>
  Option.bind (olA a0) fun v2 =>
  Option.bind (gI v1 v2) fun _ =>
  if v2 ≤ v1 then
    some (.inl (.inr ()))
  else
    Option.bind (
      Option.bind (gI v1 (10)) fun _ =>
      if (10) < v1 then
        some (0)
      else
        some (9999)) fun v3 =>
    Option.bind (odJ M a0 v1) fun v4 =>
    Option.bind (gJ v4 (-v3)) fun _ =>
    if v4 < (-v3) then
      some (.inl (.inl (1)))
    else
      Option.bind (odJ M a0 v1) fun v5 =>
      Option.bind (gJ v5 v3) fun _ =>
      if v5 ≤ v3 then
        some (.inr (v1 + 1))
      else
        some (.inl (.inl (1)))
def f_X7_isTooGreat (n : Nat) (a0 : Nat) (M : MI) : Option Int :=
  Option.bind (lpF (l_X7_isTooGreat_2 a0 M) n (0)) fun r => match r with
  | .inl o => some o
  | .inr () =>
    some (0)
set_option maxRecDepth 100000 in
set_option maxHeartbeats 8000000 in
theorem b_X7_isTooGreat {p : Program} {l : Launch} {e : Env} {s : State} {m : MethodId} {args : Array Value} {below : List Frame} {meth : Method} {c : Code} {Q : State → Prop} {G : gG} {A : Nat → Prop} {adr : Nat → Nat} (cx : cX p s m args meth c cX7_isTooGreat (some .boolean) 4 yX7_isTooGreat.cls) (hi : adi adr) {n : Nat} {a0 : Nat} {M : MI} {r : Int} 
    (h : f_X7_isTooGreat n a0 M = some r)
    (kr : ∀ (pc : Nat) (ls : Array Slot) (H : Heap) (locs : List Loc), decode cX7_isTooGreat pc = .ok (.ireturn, 1) → narrow .boolean (.int (Int32.ofInt r)) = .int (Int32.ofInt r) → wH G A s.heap s (LL adr) (wf G adr (tm M)) H locs → W p l e { frames := 0, cells := 0, slots := 0, locals := 0 } s m args below meth c H locs 0 0 Q (F0 m pc ls [.int (Int32.ofInt r)]))
    {ls : Array Slot} {H : Heap} {locs : List Loc} (hl : lv_has ls 4 [(0, .ref (adr a0))]) (hw : wH G A s.heap s (LL adr) (wf G adr (tm M)) H locs) : W p l e { frames := 0, cells := 0, slots := 0, locals := 0 } s m args below meth c H locs 0 0 Q (F0 m 0 ls []) := by
  obtain ⟨hx, hb, -, -, hown, hts, -⟩ := id cx
  have hown : s.vm.findClass RX7 = some m.cls := hown
  unfold f_X7_isTooGreat at h
  refine lv_iconst (v := Int32.ofInt (0)) hx hb dX7_isTooGreat_0 rfl ?_
  refine lv_istore_n (lv' := [(1, .int (Int32.ofInt (0))), (0, .ref (adr a0))]) hx hb dX7_isTooGreat_1 rfl hl (by decide) rfl (fun ls hl => ?_)
  replace h := bnd h
  obtain ⟨o8, j7, h⟩ := h
  refine lp_W (Wst := fun (st : Int) => ∀ (ls : Array Slot) (H : Heap) (locs : List Loc), lv_has ls 4 [(0, .ref (adr a0)), (1, .int (Int32.ofInt st))] → wH G A s.heap s (LL adr) (wf G adr (tm M)) H locs → W p l e { frames := 0, cells := 0, slots := 0, locals := 0 } s m args below meth c H locs 0 0 Q (F0 m 2 ls [])) (fin := fun (r : (Int) ⊕ (Unit)) => match r with
      | .inl o => ∀ (pc : Nat) (ls : Array Slot) (H : Heap) (locs : List Loc), decode cX7_isTooGreat pc = .ok (.ireturn, 1) → narrow .boolean (.int (Int32.ofInt o)) = .int (Int32.ofInt o) → wH G A s.heap s (LL adr) (wf G adr (tm M)) H locs → W p l e { frames := 0, cells := 0, slots := 0, locals := 0 } s m args below meth c H locs 0 0 Q (F0 m pc ls [.int (Int32.ofInt o)])
      | .inr q => ∀ (ls : Array Slot) (H : Heap) (locs : List Loc), lv_has ls 4 [] → wH G A s.heap s (LL adr) (wf G adr (tm M)) H locs → W p l e { frames := 0, cells := 0, slots := 0, locals := 0 } s m args below meth c H locs 0 0 Q (F0 m 47 ls [])) ?_ n _ _ j7 ?_ _ _ _ (lv_sub hl [1, 0] rfl) hw
  · clear h j7 hw hl
    intro v1 x h k1 k2 ls H locs hl hw
    (try dsimp only at k2 hl hw ⊢)
    unfold l_X7_isTooGreat_2 at h
    (try dsimp only at h)
    refine lv_iload_n hx hb dX7_isTooGreat_2 rfl (lv_at hl 1 rfl) ?_
    refine lv_aload_n hx hb dX7_isTooGreat_3 rfl (lv_at hl 0 rfl) ?_
    replace h := bnd h
    obtain ⟨v2, e2, h⟩ := h
    refine o_len hx hb hi hw e2 dX7_isTooGreat_4 ?_
    replace h := bnd h
    obtain ⟨_, hg, h⟩ := h
    refine o_icmp_ge (tgt := 47) hx hb hg dX7_isTooGreat_5 (by decide) (fun hc => ?_) (fun hc => ?_)
    · replace h := ite_t hc h
      cases h
      exact k1 _ rfl _ _ _ (lv_sub hl [] rfl) hw
    · replace h := ite_f hc h
      refine lv_iload_n hx hb dX7_isTooGreat_8 rfl (lv_at hl 1 rfl) ?_
      refine lv_bipush (v := Int32.ofInt (10)) hx hb dX7_isTooGreat_9 rfl ?_
      replace h := bnd h
      obtain ⟨v3, j6, h⟩ := h
      have kj : ∀ (ls : Array Slot) (H : Heap) (locs : List Loc), lv_has ls 4 [(0, .ref (adr a0)), (1, .int (Int32.ofInt v1))] → wH G A s.heap s (LL adr) (wf G adr (tm M)) H locs → W p l e { frames := 0, cells := 0, slots := 0, locals := 0 } s m args below meth c H locs 0 0 Q (F0 m 21 ls [.long (Int64.ofInt v3)]) := by
        intro ls H locs hl hw
        refine lv_lstore_n (lv' := [(2, .long (Int64.ofInt v3)), (0, .ref (adr a0)), (1, .int (Int32.ofInt v1))]) hx hb dX7_isTooGreat_21 rfl hl (by decide) rfl (fun ls hl => ?_)
        refine lv_aload_n hx hb dX7_isTooGreat_22 rfl (lv_at hl 1 rfl) ?_
        refine lv_iload_n hx hb dX7_isTooGreat_23 rfl (lv_at hl 2 rfl) ?_
        replace h := bnd h
        obtain ⟨v4, e4, h⟩ := h
        refine o_lald hx hb hi hw e4 dX7_isTooGreat_24 ?_
        refine lv_lload_n hx hb dX7_isTooGreat_25 rfl (lv_at hl 0 rfl) ?_
        refine o_lneg hx hb dX7_isTooGreat_26 ?_
        replace h := bnd h
        obtain ⟨_, hg, h⟩ := h
        refine o_lcmp_lt (tgt := 39) hx hb hg dX7_isTooGreat_27 dX7_isTooGreat_28 (by decide) (fun hc => ?_) (fun hc => ?_)
        · replace h := ite_t hc h
          refine lv_iconst (v := Int32.ofInt (1)) hx hb dX7_isTooGreat_39 rfl ?_
          cases h
          exact k1 _ rfl _ _ _ _ dX7_isTooGreat_40 nb1 hw
        · replace h := ite_f hc h
          refine lv_aload_n hx hb dX7_isTooGreat_31 rfl (lv_at hl 1 rfl) ?_
          refine lv_iload_n hx hb dX7_isTooGreat_32 rfl (lv_at hl 2 rfl) ?_
          replace h := bnd h
          obtain ⟨v5, e5, h⟩ := h
          refine o_lald hx hb hi hw e5 dX7_isTooGreat_33 ?_
          refine lv_lload_n hx hb dX7_isTooGreat_34 rfl (lv_at hl 0 rfl) ?_
          replace h := bnd h
          obtain ⟨_, hg, h⟩ := h
          refine o_lcmp_le (tgt := 41) hx hb hg dX7_isTooGreat_35 dX7_isTooGreat_36 (by decide) (fun hc => ?_) (fun hc => ?_)
          · replace h := ite_t hc h
            refine lv_iinc (v := Int32.ofInt (v1 + 1)) (lv' := [(1, .int (Int32.ofInt (v1 + 1))), (2, .long (Int64.ofInt v3)), (0, .ref (adr a0))]) hx hb dX7_isTooGreat_41 hl (k := 2) rfl (inc_o _ _) (by decide) rfl (fun ls hl => ?_)
            refine lv_goto (tgt := 2) hx hb dX7_isTooGreat_44 (by decide) ?_
            cases h
            exact k2 _ rfl _ _ _ (lv_sub hl [2, 0] rfl) hw
          · replace h := ite_f hc h
            refine lv_iconst (v := Int32.ofInt (1)) hx hb dX7_isTooGreat_39 rfl ?_
            cases h
            exact k1 _ rfl _ _ _ _ dX7_isTooGreat_40 nb1 hw
      clear h
      replace h := j6
      clear j6
      replace h := bnd h
      obtain ⟨_, hg, h⟩ := h
      refine o_icmp_gt (tgt := 20) hx hb hg dX7_isTooGreat_11 (by decide) (fun hc => ?_) (fun hc => ?_)
      · replace h := ite_t hc h
        refine lv_lconst (v := Int64.ofInt (0)) hx hb dX7_isTooGreat_20 (by decide) ?_
        cases h
        exact kj _ _ _ (lv_sub hl [0, 1] rfl) hw
      · replace h := ite_f hc h
        refine lv_ldc2 (v := Int64.ofInt (9999)) hx hb hown (hts _ q_465) dX7_isTooGreat_14 ?_
        refine lv_goto (tgt := 21) hx hb dX7_isTooGreat_17 (by decide) ?_
        cases h
        exact kj _ _ _ (lv_sub hl [0, 1] rfl) hw
  · clear hw hl j7
    rcases o8 with o9 | _
    · cases h
      exact kr
    · intro ls H locs hl hw
      (try dsimp only at h hl hw ⊢)
      refine lv_iconst (v := Int32.ofInt (0)) hx hb dX7_isTooGreat_47 rfl ?_
      cases h
      exact kr _ _ _ _ dX7_isTooGreat_48 nb0 hw
theorem cc_X7_isTooGreat {l : Launch} {G : gG} {adr : Nat → Nat} {sz : Nat} (hi : adi adr) {n : Nat} {a0 : Nat} {M : MI} {r : Int} (h : f_X7_isTooGreat n a0 M = some r) : mI l yX7_isTooGreat cX7_isTooGreat 4 (some .boolean) { frames := 0, cells := 0, slots := 0, locals := 0 } G adr [.ref (adr a0)] (tm M) sz (Int32.ofInt r) (tm M) := by
  refine wEnter (by decide) (Nat.le_of_ble_eq_true rfl) ?_
  intro p e s m below meth c ls cx hinit hl hsz hw
  exact b_X7_isTooGreat cx hi h (fun pc ls H locs hd hz hw => w_zret (post := fun (r9 : Int32) (u : Mem) => r9 = Int32.ofInt r ∧ u = tm M) (lf := fun u => (LL adr, wf G adr u)) cx.1 cx.2.1 cx.2.2.1 cx.2.2.2.2.2.2 hz (tm M) hw ⟨rfl, rfl⟩ hd) hl hw
theorem q_466 : Cond.fieldLink RX7 11 "LiftFactors" "coefficients" "[[I" ∈ uU := uU_in (by decide +kernel) (by decide +kernel)
def l_X7_load_2 (a0 : Int) (a1 : Nat) : MI × Int → Option ((MI) ⊕ (MI × Int)) := fun (M1, v2) =>
  Option.bind (gI v2 (11)) fun _ =>
  if (11) ≤ v2 then
    some (.inl M1)
  else
    Option.bind (odA 7 a0) fun v3 =>
    Option.bind (odI M1 v3 v2) fun v4 =>
    Option.bind (gI v4 0) fun v5 =>
    Option.bind (osJ M1 a1 v2 v4) fun v6 =>
    some (.inr (v6, v2 + 1))
def f_X7_load (n : Nat) (a0 : Int) (a1 : Nat) (M : MI) : Option MI :=
  Option.bind (lpF (l_X7_load_2 a0 a1) n (M, (0))) fun M8 =>
  some M8
set_option maxRecDepth 100000 in
set_option maxHeartbeats 8000000 in
theorem b_X7_load {p : Program} {l : Launch} {e : Env} {s : State} {m : MethodId} {args : Array Value} {below : List Frame} {meth : Method} {c : Code} {Q : State → Prop} {G : gG} {A : Nat → Prop} {adr : Nat → Nat} (cx : cX p s m args meth c cX7_load none 4 yX7_load.cls) (hi : adi adr) {n : Nat} {a0 : Int} {a1 : Nat} {M M' : MI} 
    (h : f_X7_load n a0 a1 M = some M')
    (kr : ∀ (pc : Nat) (ls : Array Slot) (H : Heap) (locs : List Loc), decode cX7_load pc = .ok (.return_, 1) → wH G A s.heap s (LL adr) (wf G adr (tm M')) H locs → W p l e { frames := 0, cells := 0, slots := 0, locals := 0 } s m args below meth c H locs 0 0 Q (F0 m pc ls []))
    {ls : Array Slot} {H : Heap} {locs : List Loc} (hl : lv_has ls 4 [(0, .ref (adr 0)), (1, .int (Int32.ofInt a0)), (2, .ref (adr a1))]) (hw : wH G A s.heap s (LL adr) (wf G adr (tm M)) H locs) : W p l e { frames := 0, cells := 0, slots := 0, locals := 0 } s m args below meth c H locs 0 0 Q (F0 m 0 ls []) := by
  obtain ⟨hx, hb, -, -, hown, hts, -⟩ := id cx
  have hown : s.vm.findClass RX7 = some m.cls := hown
  unfold f_X7_load at h
  refine lv_iconst (v := Int32.ofInt (0)) hx hb dX7_load_0 rfl ?_
  refine lv_istore_n (lv' := [(3, .int (Int32.ofInt (0))), (0, .ref (adr 0)), (1, .int (Int32.ofInt a0)), (2, .ref (adr a1))]) hx hb dX7_load_1 rfl hl (by decide) rfl (fun ls hl => ?_)
  replace h := bnd h
  obtain ⟨M8, j7, h⟩ := h
  refine lp_W (Wst := fun (st : MI × Int) => ∀ (ls : Array Slot) (H : Heap) (locs : List Loc), lv_has ls 4 [(0, .ref (adr 0)), (1, .int (Int32.ofInt a0)), (2, .ref (adr a1)), (3, .int (Int32.ofInt st.2))] → wH G A s.heap s (LL adr) (wf G adr (tm st.1)) H locs → W p l e { frames := 0, cells := 0, slots := 0, locals := 0 } s m args below meth c H locs 0 0 Q (F0 m 2 ls [])) (fin := fun (r : MI) => ∀ (ls : Array Slot) (H : Heap) (locs : List Loc), lv_has ls 4 [] → wH G A s.heap s (LL adr) (wf G adr (tm r)) H locs → W p l e { frames := 0, cells := 0, slots := 0, locals := 0 } s m args below meth c H locs 0 0 Q (F0 m 26 ls [])) ?_ n _ _ j7 ?_ _ _ _ (lv_sub hl [1, 2, 3, 0] rfl) hw
  · clear h j7 hw hl
    intro ⟨M1, v2⟩ x h k1 k2 ls H locs hl hw
    (try dsimp only at k1 k2 hl hw ⊢)
    unfold l_X7_load_2 at h
    (try dsimp only at h)
    refine lv_iload_n hx hb dX7_load_2 rfl (lv_at hl 3 rfl) ?_
    refine lv_bipush (v := Int32.ofInt (11)) hx hb dX7_load_3 rfl ?_
    replace h := bnd h
    obtain ⟨_, hg, h⟩ := h
    refine o_icmp_ge (tgt := 26) hx hb hg dX7_load_5 (by decide) (fun hc => ?_) (fun hc => ?_)
    · replace h := ite_t hc h
      cases h
      exact k1 _ rfl _ _ _ (lv_sub hl [] rfl) hw
    · replace h := ite_f hc h
      refine lv_aload_n hx hb dX7_load_8 rfl (lv_at hl 2 rfl) ?_
      refine lv_iload_n hx hb dX7_load_9 rfl (lv_at hl 3 rfl) ?_
      refine lv_aload_n hx hb dX7_load_10 rfl (lv_at hl 0 rfl) ?_
      refine m_get (k := 0) (C := RX7) (T := TX7) (N := 15) (ref := "LiftFactors") (v := .ref (adr 7)) hx hb hi hts inX7_u hown hw (by decide) rfl 0 (by decide) q_466 rfl rfl dX7_load_11 ?_
      refine lv_iload_n hx hb dX7_load_14 rfl (lv_at hl 1 rfl) ?_
      replace h := bnd h
      obtain ⟨v3, e3, h⟩ := h
      refine o_aald hx hb hi hw e3 dX7_load_15 ?_
      refine lv_iload_n hx hb dX7_load_16 rfl (lv_at hl 3 rfl) ?_
      replace h := bnd h
      obtain ⟨v4, e4, h⟩ := h
      refine o_iald hx hb hi hw e4 dX7_load_17 ?_
      replace h := bnd h
      obtain ⟨v5, e5, h⟩ := h
      refine o_i2l hx hb e5 dX7_load_18 ?_
      replace h := bnd h
      obtain ⟨v6, e6, h⟩ := h
      refine o_last hx hb hi hw e6 dX7_load_19 (fun H locs hw => ?_)
      refine lv_iinc (v := Int32.ofInt (v2 + 1)) (lv' := [(3, .int (Int32.ofInt (v2 + 1))), (0, .ref (adr 0)), (1, .int (Int32.ofInt a0)), (2, .ref (adr a1))]) hx hb dX7_load_20 hl (k := 3) rfl (inc_o _ _) (by decide) rfl (fun ls hl => ?_)
      refine lv_goto (tgt := 2) hx hb dX7_load_23 (by decide) ?_
      cases h
      exact k2 _ rfl _ _ _ (lv_sub hl [1, 2, 3, 0] rfl) hw
  · clear hw hl
    intro ls H locs hl hw
    (try dsimp only at hl hw ⊢)
    cases h
    exact kr _ _ _ _ dX7_load_26 hw
theorem cc_X7_load {l : Launch} {G : gG} {adr : Nat → Nat} {sz : Nat} (hi : adi adr) {n : Nat} {a0 : Int} {a1 : Nat} {M M' : MI} (h : f_X7_load n a0 a1 M = some M') : mV l yX7_load cX7_load 4 none { frames := 0, cells := 0, slots := 0, locals := 0 } G adr [.ref (adr 0), .int (Int32.ofInt a0), .ref (adr a1)] (tm M) sz (tm M') := by
  refine wEnter (by decide) (Nat.le_of_ble_eq_true rfl) ?_
  intro p e s m below meth c ls cx hinit hl hsz hw
  exact b_X7_load cx hi h (fun pc ls H locs hd hw => w_vret (post := fun (u : Mem) => u = tm M') (lf := fun u => (LL adr, wf G adr u)) cx.1 cx.2.1 cx.2.2.1 cx.2.2.2.2.2.2 (tm M') hw rfl hd) hl hw
theorem q_467 : Cond.fieldLink RX7 14 "LiftFactors" "given" "I" ∈ uU := uU_in (by decide +kernel) (by decide +kernel)
def l_X7_keep_7 (a0 : Nat) (c3 : Int) : MI × Int → Option ((MI) ⊕ (MI × Int)) := fun (M1, v2) =>
  Option.bind (gI v2 (11)) fun _ =>
  if (11) ≤ v2 then
    some (.inl M1)
  else
    Option.bind (odA 7 c3) fun v4 =>
    Option.bind (odJ M1 a0 v2) fun v5 =>
    Option.bind (gJ v5 0) fun v6 =>
    Option.bind (osI M1 v4 v2 v5) fun v7 =>
    some (.inr (v7, v2 + 1))
def f_X7_keep (n : Nat) (a0 : Nat) (M : MI) : Option (Int × MI) :=
  Option.bind (lpF (l_X7_keep_7 a0 (M.2 0 1)) n (M, (0))) fun M9 =>
  Option.bind (opI M9 0 1 ((M9.2 0 1) + (1))) fun v10 =>
  some (M.2 0 1, v10)
set_option maxRecDepth 100000 in
set_option maxHeartbeats 8000000 in
theorem b_X7_keep {p : Program} {l : Launch} {e : Env} {s : State} {m : MethodId} {args : Array Value} {below : List Frame} {meth : Method} {c : Code} {Q : State → Prop} {G : gG} {A : Nat → Prop} {adr : Nat → Nat} (cx : cX p s m args meth c cX7_keep (some .int) 4 yX7_keep.cls) (hi : adi adr) {n : Nat} {a0 : Nat} {M M' : MI} {r : Int} 
    (h : f_X7_keep n a0 M = some (r, M'))
    (kr : ∀ (pc : Nat) (ls : Array Slot) (H : Heap) (locs : List Loc), decode cX7_keep pc = .ok (.ireturn, 1) → wH G A s.heap s (LL adr) (wf G adr (tm M')) H locs → W p l e { frames := 0, cells := 0, slots := 0, locals := 0 } s m args below meth c H locs 0 0 Q (F0 m pc ls [.int (Int32.ofInt r)]))
    {ls : Array Slot} {H : Heap} {locs : List Loc} (hl : lv_has ls 4 [(0, .ref (adr 0)), (1, .ref (adr a0))]) (hw : wH G A s.heap s (LL adr) (wf G adr (tm M)) H locs) : W p l e { frames := 0, cells := 0, slots := 0, locals := 0 } s m args below meth c H locs 0 0 Q (F0 m 0 ls []) := by
  obtain ⟨hx, hb, -, -, hown, hts, -⟩ := id cx
  have hown : s.vm.findClass RX7 = some m.cls := hown
  unfold f_X7_keep at h
  refine lv_aload_n hx hb dX7_keep_0 rfl (lv_at hl 0 rfl) ?_
  refine m_get (k := 0) (C := RX7) (T := TX7) (N := 15) (ref := "LiftFactors") (v := .int (Int32.ofInt (M.2 0 1))) hx hb hi hts inX7_u hown hw (by decide) rfl 1 (by decide) q_467 rfl rfl dX7_keep_1 ?_
  refine lv_istore_n (lv' := [(2, .int (Int32.ofInt (M.2 0 1))), (0, .ref (adr 0)), (1, .ref (adr a0))]) hx hb dX7_keep_4 rfl hl (by decide) rfl (fun ls hl => ?_)
  refine lv_iconst (v := Int32.ofInt (0)) hx hb dX7_keep_5 rfl ?_
  refine lv_istore_n (lv' := [(3, .int (Int32.ofInt (0))), (2, .int (Int32.ofInt (M.2 0 1))), (0, .ref (adr 0)), (1, .ref (adr a0))]) hx hb dX7_keep_6 rfl hl (by decide) rfl (fun ls hl => ?_)
  replace h := bnd h
  obtain ⟨M9, j8, h⟩ := h
  refine lp_W (Wst := fun (st : MI × Int) => ∀ (ls : Array Slot) (H : Heap) (locs : List Loc), lv_has ls 4 [(0, .ref (adr 0)), (1, .ref (adr a0)), (2, .int (Int32.ofInt (M.2 0 1))), (3, .int (Int32.ofInt st.2))] → wH G A s.heap s (LL adr) (wf G adr (tm st.1)) H locs → W p l e { frames := 0, cells := 0, slots := 0, locals := 0 } s m args below meth c H locs 0 0 Q (F0 m 7 ls [])) (fin := fun (r : MI) => ∀ (ls : Array Slot) (H : Heap) (locs : List Loc), lv_has ls 4 [(0, .ref (adr 0)), (2, .int (Int32.ofInt (M.2 0 1)))] → wH G A s.heap s (LL adr) (wf G adr (tm r)) H locs → W p l e { frames := 0, cells := 0, slots := 0, locals := 0 } s m args below meth c H locs 0 0 Q (F0 m 31 ls [])) ?_ n _ _ j8 ?_ _ _ _ (lv_sub hl [2, 3, 1, 0] rfl) hw
  · clear h j8 hw hl
    intro ⟨M1, v2⟩ x h k1 k2 ls H locs hl hw
    (try dsimp only at k1 k2 hl hw ⊢)
    unfold l_X7_keep_7 at h
    (try dsimp only at h)
    refine lv_iload_n hx hb dX7_keep_7 rfl (lv_at hl 3 rfl) ?_
    refine lv_bipush (v := Int32.ofInt (11)) hx hb dX7_keep_8 rfl ?_
    replace h := bnd h
    obtain ⟨_, hg, h⟩ := h
    refine o_icmp_ge (tgt := 31) hx hb hg dX7_keep_10 (by decide) (fun hc => ?_) (fun hc => ?_)
    · replace h := ite_t hc h
      cases h
      exact k1 _ rfl _ _ _ (lv_sub hl [0, 2] rfl) hw
    · replace h := ite_f hc h
      refine lv_aload_n hx hb dX7_keep_13 rfl (lv_at hl 0 rfl) ?_
      refine m_get (k := 0) (C := RX7) (T := TX7) (N := 15) (ref := "LiftFactors") (v := .ref (adr 7)) hx hb hi hts inX7_u hown hw (by decide) rfl 0 (by decide) q_466 rfl rfl dX7_keep_14 ?_
      refine lv_iload_n hx hb dX7_keep_17 rfl (lv_at hl 2 rfl) ?_
      replace h := bnd h
      obtain ⟨v4, e4, h⟩ := h
      refine o_aald hx hb hi hw e4 dX7_keep_18 ?_
      refine lv_iload_n hx hb dX7_keep_19 rfl (lv_at hl 3 rfl) ?_
      refine lv_aload_n hx hb dX7_keep_20 rfl (lv_at hl 1 rfl) ?_
      refine lv_iload_n hx hb dX7_keep_21 rfl (lv_at hl 3 rfl) ?_
      replace h := bnd h
      obtain ⟨v5, e5, h⟩ := h
      refine o_lald hx hb hi hw e5 dX7_keep_22 ?_
      replace h := bnd h
      obtain ⟨v6, e6, h⟩ := h
      refine o_l2i hx hb e6 dX7_keep_23 ?_
      replace h := bnd h
      obtain ⟨v7, e7, h⟩ := h
      refine o_iast hx hb hi hw e7 dX7_keep_24 (fun H locs hw => ?_)
      refine lv_iinc (v := Int32.ofInt (v2 + 1)) (lv' := [(3, .int (Int32.ofInt (v2 + 1))), (0, .ref (adr 0)), (1, .ref (adr a0)), (2, .int (Int32.ofInt (M.2 0 1)))]) hx hb dX7_keep_25 hl (k := 3) rfl (inc_o _ _) (by decide) rfl (fun ls hl => ?_)
      refine lv_goto (tgt := 7) hx hb dX7_keep_28 (by decide) ?_
      cases h
      exact k2 _ rfl _ _ _ (lv_sub hl [1, 2, 3, 0] rfl) hw
  · clear hw hl
    intro ls H locs hl hw
    (try dsimp only at hl hw ⊢)
    refine lv_aload_n hx hb dX7_keep_31 rfl (lv_at hl 0 rfl) ?_
    refine lv_dup hx hb dX7_keep_32 rfl ?_
    refine m_get (k := 0) (C := RX7) (T := TX7) (N := 15) (ref := "LiftFactors") (v := .int (Int32.ofInt (M9.2 0 1))) hx hb hi hts inX7_u hown hw (by decide) rfl 1 (by decide) q_467 rfl rfl dX7_keep_33 ?_
    refine lv_iconst (v := Int32.ofInt (1)) hx hb dX7_keep_36 rfl ?_
    refine o_iadd hx hb dX7_keep_37 ?_
    replace h := bnd h
    obtain ⟨v10, e10, h⟩ := h
    refine o_putI (k := 0) (C := RX7) (T := TX7) (N := 15) (ref := "LiftFactors") hx hb hi hts inX7_u tyX7 tyX7_ok nmX7 hown hw (by decide) rfl 1 (by decide) q_467 rfl rfl e10 (by decide +kernel) rfl dX7_keep_38 (fun H locs hw => ?_)
    refine lv_iload_n hx hb dX7_keep_41 rfl (lv_at hl 1 rfl) ?_
    cases h
    exact kr _ _ _ _ dX7_keep_42 hw
theorem cc_X7_keep {l : Launch} {G : gG} {adr : Nat → Nat} {sz : Nat} (hi : adi adr) {n : Nat} {a0 : Nat} {M M' : MI} {r : Int} (h : f_X7_keep n a0 M = some (r, M')) : mI l yX7_keep cX7_keep 4 (some .int) { frames := 0, cells := 0, slots := 0, locals := 0 } G adr [.ref (adr 0), .ref (adr a0)] (tm M) sz (Int32.ofInt r) (tm M') := by
  refine wEnter (by decide) (Nat.le_of_ble_eq_true rfl) ?_
  intro p e s m below meth c ls cx hinit hl hsz hw
  exact b_X7_keep cx hi h (fun pc ls H locs hd hw => w_iret (post := fun (r9 : Int32) (u : Mem) => r9 = Int32.ofInt r ∧ u = tm M') (lf := fun u => (LL adr, wf G adr u)) cx.1 cx.2.1 cx.2.2.1 cx.2.2.2.2.2.2 (tm M') hw ⟨rfl, rfl⟩ hd) hl hw
theorem q_468 : Cond.fieldLink RX7 78 "LiftFactors" "factorizer" "LLiftFactors$Factorizer;" ∈ uU := uU_in (by decide +kernel) (by decide +kernel)
theorem q_469 : Cond.fieldLink RX7 163 "LiftFactors$Factorizer" "foundCount" "I" ∈ uU := uU_in (by decide +kernel) (by decide +kernel)
theorem q_470 : Cond.fieldLink RX7 25 "LiftFactors" "factorCount" "I" ∈ uU := uU_in (by decide +kernel) (by decide +kernel)
theorem q_471 : Cond.fieldLink RX7 18 "LiftFactors" "factorNumbers" "[I" ∈ uU := uU_in (by decide +kernel) (by decide +kernel)
theorem q_472 : Cond.fieldLink RX7 166 "LiftFactors$Factorizer" "found" "[[J" ∈ uU := uU_in (by decide +kernel) (by decide +kernel)
theorem q_473 : Cond.methodLink RX7 98 yX7_keep ∈ uU := uU_in (by decide +kernel) (by decide +kernel)
theorem q_474 : Cond.instanceMethod yX7_keep ∈ uU := uU_in (by decide +kernel) (by decide +kernel)
theorem q_475 : Cond.selects yX7_keep.cls yX7_keep yX7_keep ∈ uU := uU_in (by decide +kernel) (by decide +kernel)
theorem q_476 : Cond.initialized yX7_keep.cls ∈ uU := uU_in (by decide +kernel) (by decide +kernel)
theorem q_477 : Cond.code yX7_keep cX7_keep 4 (some .int) ∈ uU := uU_in (by decide +kernel) (by decide +kernel)
theorem q_478 : Cond.fieldLink RX7 22 "LiftFactors" "factorMultiplicities" "[I" ∈ uU := uU_in (by decide +kernel) (by decide +kernel)
theorem q_479 : Cond.fieldLink RX7 243 "LiftFactors$Factorizer" "multiplicities" "[I" ∈ uU := uU_in (by decide +kernel) (by decide +kernel)
def l_X7_keepFactors_13 (n : Nat) : MI × Int → Option ((MI) ⊕ (MI × Int)) := fun (M2, v3) =>
  Option.bind (gI v3 (M2.2 0 4)) fun _ =>
  if (M2.2 0 4) ≤ v3 then
    some (.inl M2)
  else
    Option.bind (odA 26 v3) fun v4 =>
    Option.bind (f_X7_keep n v4 M2) fun (v5, M6) =>
    Option.bind (osI M6 8 v3 v5) fun v7 =>
    Option.bind (odI v7 27 v3) fun v8 =>
    Option.bind (osI v7 9 v3 v8) fun v9 =>
    some (.inr (v9, v3 + 1))
def f_X7_keepFactors (n : Nat) (M : MI) : Option MI :=
  Option.bind (opI M 0 4 (M.2 5 2)) fun v1 =>
  Option.bind (lpF (l_X7_keepFactors_13 n) n (v1, (0))) fun M11 =>
  some M11
set_option maxRecDepth 100000 in
set_option maxHeartbeats 8000000 in
theorem b_X7_keepFactors {p : Program} {l : Launch} {e : Env} {s : State} {m : MethodId} {args : Array Value} {below : List Frame} {meth : Method} {c : Code} {Q : State → Prop} {G : gG} {A : Nat → Prop} {adr : Nat → Nat} (cx : cX p s m args meth c cX7_keepFactors none 2 yX7_keepFactors.cls) (hi : adi adr) {n : Nat} {M M' : MI} 
    (h : f_X7_keepFactors n M = some M')
    (kr : ∀ (pc : Nat) (ls : Array Slot) (H : Heap) (locs : List Loc), decode cX7_keepFactors pc = .ok (.return_, 1) → wH G A s.heap s (LL adr) (wf G adr (tm M')) H locs → W p l e { frames := 1, cells := 0, slots := 0, locals := 23 } s m args below meth c H locs 0 0 Q (F0 m pc ls []))
    {ls : Array Slot} {H : Heap} {locs : List Loc} (hl : lv_has ls 2 [(0, .ref (adr 0))]) (hw : wH G A s.heap s (LL adr) (wf G adr (tm M)) H locs) : W p l e { frames := 1, cells := 0, slots := 0, locals := 23 } s m args below meth c H locs 0 0 Q (F0 m 0 ls []) := by
  obtain ⟨hx, hb, -, -, hown, hts, -⟩ := id cx
  have hown : s.vm.findClass RX7 = some m.cls := hown
  unfold f_X7_keepFactors at h
  refine lv_aload_n hx hb dX7_keepFactors_0 rfl (lv_at hl 0 rfl) ?_
  refine lv_aload_n hx hb dX7_keepFactors_1 rfl (lv_at hl 0 rfl) ?_
  refine m_get (k := 0) (C := RX7) (T := TX7) (N := 15) (ref := "LiftFactors") (v := .ref (adr 5)) hx hb hi hts inX7_u hown hw (by decide) rfl 13 (by decide) q_468 rfl rfl dX7_keepFactors_2 ?_
  refine m_get (k := 5) (C := RX2) (T := TX2) (N := 11) (ref := "LiftFactors$Factorizer") (v := .int (Int32.ofInt (M.2 5 2))) hx hb hi hts inX2_u hown hw (by decide) rfl 2 (by decide) q_469 rfl rfl dX7_keepFactors_5 ?_
  replace h := bnd h
  obtain ⟨v1, e1, h⟩ := h
  refine o_putI (k := 0) (C := RX7) (T := TX7) (N := 15) (ref := "LiftFactors") hx hb hi hts inX7_u tyX7 tyX7_ok nmX7 hown hw (by decide) rfl 4 (by decide) q_470 rfl rfl e1 (by decide +kernel) rfl dX7_keepFactors_8 (fun H locs hw => ?_)
  refine lv_iconst (v := Int32.ofInt (0)) hx hb dX7_keepFactors_11 rfl ?_
  refine lv_istore_n (lv' := [(1, .int (Int32.ofInt (0))), (0, .ref (adr 0))]) hx hb dX7_keepFactors_12 rfl hl (by decide) rfl (fun ls hl => ?_)
  replace h := bnd h
  obtain ⟨M11, j10, h⟩ := h
  refine lp_W (Wst := fun (st : MI × Int) => ∀ (ls : Array Slot) (H : Heap) (locs : List Loc), lv_has ls 2 [(0, .ref (adr 0)), (1, .int (Int32.ofInt st.2))] → wH G A s.heap s (LL adr) (wf G adr (tm st.1)) H locs → W p l e { frames := 1, cells := 0, slots := 0, locals := 23 } s m args below meth c H locs 0 0 Q (F0 m 13 ls [])) (fin := fun (r : MI) => ∀ (ls : Array Slot) (H : Heap) (locs : List Loc), lv_has ls 2 [] → wH G A s.heap s (LL adr) (wf G adr (tm r)) H locs → W p l e { frames := 1, cells := 0, slots := 0, locals := 23 } s m args below meth c H locs 0 0 Q (F0 m 61 ls [])) ?_ n _ _ j10 ?_ _ _ _ (lv_sub hl [1, 0] rfl) hw
  · clear h j10 hw hl
    intro ⟨M2, v3⟩ x h k1 k2 ls H locs hl hw
    (try dsimp only at k1 k2 hl hw ⊢)
    unfold l_X7_keepFactors_13 at h
    (try dsimp only at h)
    refine lv_iload_n hx hb dX7_keepFactors_13 rfl (lv_at hl 1 rfl) ?_
    refine lv_aload_n hx hb dX7_keepFactors_14 rfl (lv_at hl 0 rfl) ?_
    refine m_get (k := 0) (C := RX7) (T := TX7) (N := 15) (ref := "LiftFactors") (v := .int (Int32.ofInt (M2.2 0 4))) hx hb hi hts inX7_u hown hw (by decide) rfl 4 (by decide) q_470 rfl rfl dX7_keepFactors_15 ?_
    replace h := bnd h
    obtain ⟨_, hg, h⟩ := h
    refine o_icmp_ge (tgt := 61) hx hb hg dX7_keepFactors_18 (by decide) (fun hc => ?_) (fun hc => ?_)
    · replace h := ite_t hc h
      cases h
      exact k1 _ rfl _ _ _ (lv_sub hl [] rfl) hw
    · replace h := ite_f hc h
      refine lv_aload_n hx hb dX7_keepFactors_21 rfl (lv_at hl 0 rfl) ?_
      refine m_get (k := 0) (C := RX7) (T := TX7) (N := 15) (ref := "LiftFactors") (v := .ref (adr 8)) hx hb hi hts inX7_u hown hw (by decide) rfl 2 (by decide) q_471 rfl rfl dX7_keepFactors_22 ?_
      refine lv_iload_n hx hb dX7_keepFactors_25 rfl (lv_at hl 1 rfl) ?_
      refine lv_aload_n hx hb dX7_keepFactors_26 rfl (lv_at hl 0 rfl) ?_
      refine lv_aload_n hx hb dX7_keepFactors_27 rfl (lv_at hl 0 rfl) ?_
      refine m_get (k := 0) (C := RX7) (T := TX7) (N := 15) (ref := "LiftFactors") (v := .ref (adr 5)) hx hb hi hts inX7_u hown hw (by decide) rfl 13 (by decide) q_468 rfl rfl dX7_keepFactors_28 ?_
      refine m_get (k := 5) (C := RX2) (T := TX2) (N := 11) (ref := "LiftFactors$Factorizer") (v := .ref (adr 26)) hx hb hi hts inX2_u hown hw (by decide) rfl 0 (by decide) q_472 rfl rfl dX7_keepFactors_31 ?_
      refine lv_iload_n hx hb dX7_keepFactors_34 rfl (lv_at hl 1 rfl) ?_
      replace h := bnd h
      obtain ⟨v4, e4, h⟩ := h
      refine o_aald hx hb hi hw e4 dX7_keepFactors_35 ?_
      replace h := bnd h
      obtain ⟨⟨v5, M6⟩, e5, h⟩ := h
      refine m_callVi (k := 0) (As := [.ref (adr v4)]) (rest := [.int (Int32.ofInt v3), .ref (adr 8)]) cx.fix hi hw (cc_X7_keep (l := l) (G := G) (sz := H.size) hi e5) (by decide) rfl rfl (w_cV 1 hts q_473 q_474 q_475 q_476 q_477 rfl rfl (by decide) (by decide)) hl.1 rfl (lv_room (Nat.le_of_ble_eq_true rfl)) dX7_keepFactors_36 (fun H locs hw => ?_)
      replace h := bnd h
      obtain ⟨v7, e7, h⟩ := h
      refine o_iast hx hb hi hw e7 dX7_keepFactors_39 (fun H locs hw => ?_)
      refine lv_aload_n hx hb dX7_keepFactors_40 rfl (lv_at hl 0 rfl) ?_
      refine m_get (k := 0) (C := RX7) (T := TX7) (N := 15) (ref := "LiftFactors") (v := .ref (adr 9)) hx hb hi hts inX7_u hown hw (by decide) rfl 3 (by decide) q_478 rfl rfl dX7_keepFactors_41 ?_
      refine lv_iload_n hx hb dX7_keepFactors_44 rfl (lv_at hl 1 rfl) ?_
      refine lv_aload_n hx hb dX7_keepFactors_45 rfl (lv_at hl 0 rfl) ?_
      refine m_get (k := 0) (C := RX7) (T := TX7) (N := 15) (ref := "LiftFactors") (v := .ref (adr 5)) hx hb hi hts inX7_u hown hw (by decide) rfl 13 (by decide) q_468 rfl rfl dX7_keepFactors_46 ?_
      refine m_get (k := 5) (C := RX2) (T := TX2) (N := 11) (ref := "LiftFactors$Factorizer") (v := .ref (adr 27)) hx hb hi hts inX2_u hown hw (by decide) rfl 1 (by decide) q_479 rfl rfl dX7_keepFactors_49 ?_
      refine lv_iload_n hx hb dX7_keepFactors_52 rfl (lv_at hl 1 rfl) ?_
      replace h := bnd h
      obtain ⟨v8, e8, h⟩ := h
      refine o_iald hx hb hi hw e8 dX7_keepFactors_53 ?_
      replace h := bnd h
      obtain ⟨v9, e9, h⟩ := h
      refine o_iast hx hb hi hw e9 dX7_keepFactors_54 (fun H locs hw => ?_)
      refine lv_iinc (v := Int32.ofInt (v3 + 1)) (lv' := [(1, .int (Int32.ofInt (v3 + 1))), (0, .ref (adr 0))]) hx hb dX7_keepFactors_55 hl (k := 1) rfl (inc_o _ _) (by decide) rfl (fun ls hl => ?_)
      refine lv_goto (tgt := 13) hx hb dX7_keepFactors_58 (by decide) ?_
      cases h
      exact k2 _ rfl _ _ _ (lv_sub hl [1, 0] rfl) hw
  · clear hw hl
    intro ls H locs hl hw
    (try dsimp only at hl hw ⊢)
    cases h
    exact kr _ _ _ _ dX7_keepFactors_61 hw
theorem cc_X7_keepFactors {l : Launch} {G : gG} {adr : Nat → Nat} {sz : Nat} (hi : adi adr) {n : Nat} {M M' : MI} (h : f_X7_keepFactors n M = some M') : mV l yX7_keepFactors cX7_keepFactors 2 none { frames := 1, cells := 0, slots := 0, locals := 23 } G adr [.ref (adr 0)] (tm M) sz (tm M') := by
  refine wEnter (by decide) (Nat.le_of_ble_eq_true rfl) ?_
  intro p e s m below meth c ls cx hinit hl hsz hw
  exact b_X7_keepFactors cx hi h (fun pc ls H locs hd hw => w_vret (post := fun (u : Mem) => u = tm M') (lf := fun u => (LL adr, wf G adr u)) cx.1 cx.2.1 cx.2.2.1 cx.2.2.2.2.2.2 (tm M') hw rfl hd) hl hw
theorem q_480 : Cond.fieldLink RX7 38 "LiftFactors" "product" "[J" ∈ uU := uU_in (by decide +kernel) (by decide +kernel)
theorem q_481 : Cond.methodLink RX7 92 yJ7_fill_d0a16 ∈ uU := uU_in (by decide +kernel) (by decide +kernel)
def l_X7_multiply_19 (a0 : Nat) (a1 : Nat) (v3 : Int) : MI × Int → Option ((MI) ⊕ (MI × Int)) := fun (M4, v5) =>
  Option.bind (gI v5 (11)) fun _ =>
  if (11) ≤ v5 then
    some (.inl M4)
  else
    Option.bind (odJ M4 13 (v3 + v5)) fun v6 =>
    Option.bind (odI M4 a0 v3) fun v7 =>
    Option.bind (gI v7 0) fun v8 =>
    Option.bind (odI M4 a1 v5) fun v9 =>
    Option.bind (gI v9 0) fun v10 =>
    Option.bind (osJ M4 13 (v3 + v5) (v6 + (v7 * v9))) fun v11 =>
    some (.inr (v11, v5 + 1))
def l_X7_multiply_10 (n : Nat) (a0 : Nat) (a1 : Nat) : MI × Int → Option ((MI) ⊕ (MI × Int)) := fun (M2, v3) =>
  Option.bind (gI v3 (11)) fun _ =>
  if (11) ≤ v3 then
    some (.inl M2)
  else
    Option.bind (lpF (l_X7_multiply_19 a0 a1 v3) n (M2, (0))) fun M13 =>
    some (.inr (M13, v3 + 1))
def f_X7_multiply (n : Nat) (a0 : Nat) (a1 : Nat) (M : MI) : Option MI :=
  Option.bind (f_J7_fill_d0a16 n 13 (0) M) fun v1 =>
  Option.bind (lpF (l_X7_multiply_10 n a0 a1) n (v1, (0))) fun M15 =>
  some M15
set_option maxRecDepth 100000 in
set_option maxHeartbeats 8000000 in
theorem b_X7_multiply {p : Program} {l : Launch} {e : Env} {s : State} {m : MethodId} {args : Array Value} {below : List Frame} {meth : Method} {c : Code} {Q : State → Prop} {G : gG} {A : Nat → Prop} {adr : Nat → Nat} (cx : cX p s m args meth c cX7_multiply none 5 yX7_multiply.cls) (hi : adi adr) {n : Nat} {a0 : Nat} {a1 : Nat} {M M' : MI} 
    (h : f_X7_multiply n a0 a1 M = some M')
    (kr : ∀ (pc : Nat) (ls : Array Slot) (H : Heap) (locs : List Loc), decode cX7_multiply pc = .ok (.return_, 1) → wH G A s.heap s (LL adr) (wf G adr (tm M')) H locs → W p l e { frames := 1, cells := 0, slots := 0, locals := 24 } s m args below meth c H locs 0 0 Q (F0 m pc ls []))
    {ls : Array Slot} {H : Heap} {locs : List Loc} (hl : lv_has ls 5 [(0, .ref (adr 0)), (1, .ref (adr a0)), (2, .ref (adr a1))]) (hw : wH G A s.heap s (LL adr) (wf G adr (tm M)) H locs) : W p l e { frames := 1, cells := 0, slots := 0, locals := 24 } s m args below meth c H locs 0 0 Q (F0 m 0 ls []) := by
  obtain ⟨hx, hb, -, -, hown, hts, -⟩ := id cx
  have hown : s.vm.findClass RX7 = some m.cls := hown
  unfold f_X7_multiply at h
  refine lv_aload_n hx hb dX7_multiply_0 rfl (lv_at hl 0 rfl) ?_
  refine m_get (k := 0) (C := RX7) (T := TX7) (N := 15) (ref := "LiftFactors") (v := .ref (adr 13)) hx hb hi hts inX7_u hown hw (by decide) rfl 8 (by decide) q_480 rfl rfl dX7_multiply_1 ?_
  refine lv_lconst (v := Int64.ofInt (0)) hx hb dX7_multiply_4 (by decide) ?_
  replace h := bnd h
  obtain ⟨v1, e1, h⟩ := h
  refine m_callSv (As := [.ref (adr 13), .long (Int64.ofInt (0))]) (rest := []) cx.fix hw (cc_J7_fill_d0a16 (l := l) (G := G) (sz := H.size) hi e1) (w_cS 2 hts q_481 q_265 q_266 q_267 rfl rfl (by decide) (by decide)) hl.1 rfl (lv_room (Nat.le_of_ble_eq_true rfl)) dX7_multiply_5 (fun H locs hw => ?_)
  refine lv_iconst (v := Int32.ofInt (0)) hx hb dX7_multiply_8 rfl ?_
  refine lv_istore_n (lv' := [(3, .int (Int32.ofInt (0))), (0, .ref (adr 0)), (1, .ref (adr a0)), (2, .ref (adr a1))]) hx hb dX7_multiply_9 rfl hl (by decide) rfl (fun ls hl => ?_)
  replace h := bnd h
  obtain ⟨M15, j14, h⟩ := h
  refine lp_W (Wst := fun (st : MI × Int) => ∀ (ls : Array Slot) (H : Heap) (locs : List Loc), lv_has ls 5 [(0, .ref (adr 0)), (1, .ref (adr a0)), (2, .ref (adr a1)), (3, .int (Int32.ofInt st.2))] → wH G A s.heap s (LL adr) (wf G adr (tm st.1)) H locs → W p l e { frames := 1, cells := 0, slots := 0, locals := 24 } s m args below meth c H locs 0 0 Q (F0 m 10 ls [])) (fin := fun (r : MI) => ∀ (ls : Array Slot) (H : Heap) (locs : List Loc), lv_has ls 5 [] → wH G A s.heap s (LL adr) (wf G adr (tm r)) H locs → W p l e { frames := 1, cells := 0, slots := 0, locals := 24 } s m args below meth c H locs 0 0 Q (F0 m 60 ls [])) ?_ n _ _ j14 ?_ _ _ _ (lv_sub hl [1, 2, 3, 0] rfl) hw
  · clear h j14 hw hl
    intro ⟨M2, v3⟩ x h k1 k2 ls H locs hl hw
    (try dsimp only at k1 k2 hl hw ⊢)
    unfold l_X7_multiply_10 at h
    (try dsimp only at h)
    refine lv_iload_n hx hb dX7_multiply_10 rfl (lv_at hl 3 rfl) ?_
    refine lv_bipush (v := Int32.ofInt (11)) hx hb dX7_multiply_11 rfl ?_
    replace h := bnd h
    obtain ⟨_, hg, h⟩ := h
    refine o_icmp_ge (tgt := 60) hx hb hg dX7_multiply_13 (by decide) (fun hc => ?_) (fun hc => ?_)
    · replace h := ite_t hc h
      cases h
      exact k1 _ rfl _ _ _ (lv_sub hl [] rfl) hw
    · replace h := ite_f hc h
      refine lv_iconst (v := Int32.ofInt (0)) hx hb dX7_multiply_16 rfl ?_
      refine lv_istore (lv' := [(4, .int (Int32.ofInt (0))), (0, .ref (adr 0)), (1, .ref (adr a0)), (2, .ref (adr a1)), (3, .int (Int32.ofInt v3))]) hx hb dX7_multiply_17 hl (by decide) rfl (fun ls hl => ?_)
      replace h := bnd h
      obtain ⟨M13, j12, h⟩ := h
      refine lp_W (Wst := fun (st : MI × Int) => ∀ (ls : Array Slot) (H : Heap) (locs : List Loc), lv_has ls 5 [(0, .ref (adr 0)), (1, .ref (adr a0)), (2, .ref (adr a1)), (3, .int (Int32.ofInt v3)), (4, .int (Int32.ofInt st.2))] → wH G A s.heap s (LL adr) (wf G adr (tm st.1)) H locs → W p l e { frames := 1, cells := 0, slots := 0, locals := 24 } s m args below meth c H locs 0 0 Q (F0 m 19 ls [])) (fin := fun (r : MI) => ∀ (ls : Array Slot) (H : Heap) (locs : List Loc), lv_has ls 5 [(0, .ref (adr 0)), (1, .ref (adr a0)), (2, .ref (adr a1)), (3, .int (Int32.ofInt v3))] → wH G A s.heap s (LL adr) (wf G adr (tm r)) H locs → W p l e { frames := 1, cells := 0, slots := 0, locals := 24 } s m args below meth c H locs 0 0 Q (F0 m 54 ls [])) ?_ n _ _ j12 ?_ _ _ _ (lv_sub hl [1, 2, 3, 4, 0] rfl) hw
      · clear h j12 hw hl
        intro ⟨M4, v5⟩ x h k1 k2 ls H locs hl hw
        (try dsimp only at k1 k2 hl hw ⊢)
        unfold l_X7_multiply_19 at h
        (try dsimp only at h)
        refine lv_iload hx hb dX7_multiply_19 (lv_at hl 4 rfl) ?_
        refine lv_bipush (v := Int32.ofInt (11)) hx hb dX7_multiply_21 rfl ?_
        replace h := bnd h
        obtain ⟨_, hg, h⟩ := h
        refine o_icmp_ge (tgt := 54) hx hb hg dX7_multiply_23 (by decide) (fun hc => ?_) (fun hc => ?_)
        · replace h := ite_t hc h
          cases h
          exact k1 _ rfl _ _ _ (lv_sub hl [0, 1, 2, 3] rfl) hw
        · replace h := ite_f hc h
          refine lv_aload_n hx hb dX7_multiply_26 rfl (lv_at hl 0 rfl) ?_
          refine m_get (k := 0) (C := RX7) (T := TX7) (N := 15) (ref := "LiftFactors") (v := .ref (adr 13)) hx hb hi hts inX7_u hown hw (by decide) rfl 8 (by decide) q_480 rfl rfl dX7_multiply_27 ?_
          refine lv_iload_n hx hb dX7_multiply_30 rfl (lv_at hl 3 rfl) ?_
          refine lv_iload hx hb dX7_multiply_31 (lv_at hl 4 rfl) ?_
          refine o_iadd hx hb dX7_multiply_33 ?_
          refine lv_dup2_11 hx hb dX7_multiply_34 rfl rfl ?_
          replace h := bnd h
          obtain ⟨v6, e6, h⟩ := h
          refine o_lald hx hb hi hw e6 dX7_multiply_35 ?_
          refine lv_aload_n hx hb dX7_multiply_36 rfl (lv_at hl 1 rfl) ?_
          refine lv_iload_n hx hb dX7_multiply_37 rfl (lv_at hl 3 rfl) ?_
          replace h := bnd h
          obtain ⟨v7, e7, h⟩ := h
          refine o_iald hx hb hi hw e7 dX7_multiply_38 ?_
          replace h := bnd h
          obtain ⟨v8, e8, h⟩ := h
          refine o_i2l hx hb e8 dX7_multiply_39 ?_
          refine lv_aload_n hx hb dX7_multiply_40 rfl (lv_at hl 2 rfl) ?_
          refine lv_iload hx hb dX7_multiply_41 (lv_at hl 4 rfl) ?_
          replace h := bnd h
          obtain ⟨v9, e9, h⟩ := h
          refine o_iald hx hb hi hw e9 dX7_multiply_43 ?_
          replace h := bnd h
          obtain ⟨v10, e10, h⟩ := h
          refine o_i2l hx hb e10 dX7_multiply_44 ?_
          refine o_lmul hx hb dX7_multiply_45 ?_
          refine o_ladd hx hb dX7_multiply_46 ?_
          replace h := bnd h
          obtain ⟨v11, e11, h⟩ := h
          refine o_last hx hb hi hw e11 dX7_multiply_47 (fun H locs hw => ?_)
          refine lv_iinc (v := Int32.ofInt (v5 + 1)) (lv' := [(4, .int (Int32.ofInt (v5 + 1))), (0, .ref (adr 0)), (1, .ref (adr a0)), (2, .ref (adr a1)), (3, .int (Int32.ofInt v3))]) hx hb dX7_multiply_48 hl (k := 4) rfl (inc_o _ _) (by decide) rfl (fun ls hl => ?_)
          refine lv_goto (tgt := 19) hx hb dX7_multiply_51 (by decide) ?_
          cases h
          exact k2 _ rfl _ _ _ (lv_sub hl [1, 2, 3, 4, 0] rfl) hw
      · clear hw hl
        intro ls H locs hl hw
        (try dsimp only at hl hw ⊢)
        refine lv_iinc (v := Int32.ofInt (v3 + 1)) (lv' := [(3, .int (Int32.ofInt (v3 + 1))), (0, .ref (adr 0)), (1, .ref (adr a0)), (2, .ref (adr a1))]) hx hb dX7_multiply_54 hl (k := 3) rfl (inc_o _ _) (by decide) rfl (fun ls hl => ?_)
        refine lv_goto (tgt := 10) hx hb dX7_multiply_57 (by decide) ?_
        cases h
        exact k2 _ rfl _ _ _ (lv_sub hl [1, 2, 3, 0] rfl) hw
  · clear hw hl
    intro ls H locs hl hw
    (try dsimp only at hl hw ⊢)
    cases h
    exact kr _ _ _ _ dX7_multiply_60 hw
theorem cc_X7_multiply {l : Launch} {G : gG} {adr : Nat → Nat} {sz : Nat} (hi : adi adr) {n : Nat} {a0 : Nat} {a1 : Nat} {M M' : MI} (h : f_X7_multiply n a0 a1 M = some M') : mV l yX7_multiply cX7_multiply 5 none { frames := 1, cells := 0, slots := 0, locals := 24 } G adr [.ref (adr 0), .ref (adr a0), .ref (adr a1)] (tm M) sz (tm M') := by
  refine wEnter (by decide) (Nat.le_of_ble_eq_true rfl) ?_
  intro p e s m below meth c ls cx hinit hl hsz hw
  exact b_X7_multiply cx hi h (fun pc ls H locs hd hw => w_vret (post := fun (u : Mem) => u = tm M') (lf := fun u => (LL adr, wf G adr u)) cx.1 cx.2.1 cx.2.2.1 cx.2.2.2.2.2.2 (tm M') hw rfl hd) hl hw
def f_X7_count (M : MI) : Option Int :=
  some (M.2 0 1)
set_option maxRecDepth 100000 in
set_option maxHeartbeats 8000000 in
theorem b_X7_count {p : Program} {l : Launch} {e : Env} {s : State} {m : MethodId} {args : Array Value} {below : List Frame} {meth : Method} {c : Code} {Q : State → Prop} {G : gG} {A : Nat → Prop} {adr : Nat → Nat} (cx : cX p s m args meth c cX7_count (some .int) 1 yX7_count.cls) (hi : adi adr) {M : MI} {r : Int} 
    (h : f_X7_count M = some r)
    (kr : ∀ (pc : Nat) (ls : Array Slot) (H : Heap) (locs : List Loc), decode cX7_count pc = .ok (.ireturn, 1) → wH G A s.heap s (LL adr) (wf G adr (tm M)) H locs → W p l e { frames := 0, cells := 0, slots := 0, locals := 0 } s m args below meth c H locs 0 0 Q (F0 m pc ls [.int (Int32.ofInt r)]))
    {ls : Array Slot} {H : Heap} {locs : List Loc} (hl : lv_has ls 1 [(0, .ref (adr 0))]) (hw : wH G A s.heap s (LL adr) (wf G adr (tm M)) H locs) : W p l e { frames := 0, cells := 0, slots := 0, locals := 0 } s m args below meth c H locs 0 0 Q (F0 m 0 ls []) := by
  obtain ⟨hx, hb, -, -, hown, hts, -⟩ := id cx
  have hown : s.vm.findClass RX7 = some m.cls := hown
  unfold f_X7_count at h
  refine lv_aload_n hx hb dX7_count_0 rfl (lv_at hl 0 rfl) ?_
  refine m_get (k := 0) (C := RX7) (T := TX7) (N := 15) (ref := "LiftFactors") (v := .int (Int32.ofInt (M.2 0 1))) hx hb hi hts inX7_u hown hw (by decide) rfl 1 (by decide) q_467 rfl rfl dX7_count_1 ?_
  cases h
  exact kr _ _ _ _ dX7_count_4 hw
theorem cc_X7_count {l : Launch} {G : gG} {adr : Nat → Nat} {sz : Nat} (hi : adi adr) {M : MI} {r : Int} (h : f_X7_count M = some r) : mI l yX7_count cX7_count 1 (some .int) { frames := 0, cells := 0, slots := 0, locals := 0 } G adr [.ref (adr 0)] (tm M) sz (Int32.ofInt r) (tm M) := by
  refine wEnter (by decide) (Nat.le_of_ble_eq_true rfl) ?_
  intro p e s m below meth c ls cx hinit hl hsz hw
  exact b_X7_count cx hi h (fun pc ls H locs hd hw => w_iret (post := fun (r9 : Int32) (u : Mem) => r9 = Int32.ofInt r ∧ u = tm M) (lf := fun u => (LL adr, wf G adr u)) cx.1 cx.2.1 cx.2.2.1 cx.2.2.2.2.2.2 (tm M) hw ⟨rfl, rfl⟩ hd) hl hw
