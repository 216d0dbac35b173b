def l_X8_bits_4 : Int × Int → Option ((Int) ⊕ (Int × Int)) := fun (v1, v2) =>
  Option.bind (gI v2 0) fun _ =>
  if v2 = 0 then
    some (.inl v1)
  else
    some (.inr (v1 + 1, oandI v2 (v2 - (1))))
def f_X8_bits (n : Nat) (a0 : Int) : Option Int :=
  Option.bind (lpF (l_X8_bits_4) n ((0), a0)) fun v4 =>
  some v4
set_option maxRecDepth 100000 in
set_option maxHeartbeats 8000000 in
theorem b_X8_bits {p : Program} {l : Launch} {e : Env} {s : State} {m : MethodId} {args : Array Value} {below : List Frame} {meth : Method} {c : Code} {Q : State → Prop} {G : gG} {A : Nat → Prop} {adr : Nat → Nat} (cx : cX p s m args meth c cX8_bits (some .int) 3 yX8_bits.cls) (hi : adi adr) {n : Nat} {a0 : Int} {M : MI} {r : Int} 
    (h : f_X8_bits n a0 = some r)
    (kr : ∀ (pc : Nat) (ls : Array Slot) (H : Heap) (locs : List Loc), decode cX8_bits pc = .ok (.ireturn, 1) → wH G A s.heap s (LL adr) (wf G adr (tm M)) H locs → W p l e { frames := 0, cells := 0, slots := 0, locals := 0 } s m args below meth c H locs 0 0 Q (F0 m pc ls [.int (Int32.ofInt r)]))
    {ls : Array Slot} {H : Heap} {locs : List Loc} (hl : lv_has ls 3 [(0, .int (Int32.ofInt a0))]) (hw : wH G A s.heap s (LL adr) (wf G adr (tm M)) H locs) : W p l e { frames := 0, cells := 0, slots := 0, locals := 0 } s m args below meth c H locs 0 0 Q (F0 m 0 ls []) := by
  obtain ⟨hx, hb, -, -, hown, hts, -⟩ := id cx
  have hown : s.vm.findClass RX8 = some m.cls := hown
  unfold f_X8_bits at h
  refine lv_iconst (v := Int32.ofInt (0)) hx hb dX8_bits_0 rfl ?_
  refine lv_istore_n (lv' := [(1, .int (Int32.ofInt (0))), (0, .int (Int32.ofInt a0))]) hx hb dX8_bits_1 rfl hl (by decide) rfl (fun ls hl => ?_)
  refine lv_iload_n hx hb dX8_bits_2 rfl (lv_at hl 1 rfl) ?_
  refine lv_istore_n (lv' := [(2, .int (Int32.ofInt a0)), (1, .int (Int32.ofInt (0))), (0, .int (Int32.ofInt a0))]) hx hb dX8_bits_3 rfl hl (by decide) rfl (fun ls hl => ?_)
  replace h := bnd h
  obtain ⟨v4, j3, h⟩ := h
  refine lp_W (Wst := fun (st : Int × Int) => ∀ (ls : Array Slot) (H : Heap) (locs : List Loc), lv_has ls 3 [(1, .int (Int32.ofInt st.1)), (2, .int (Int32.ofInt st.2))] → wH G A s.heap s (LL adr) (wf G adr (tm M)) H locs → W p l e { frames := 0, cells := 0, slots := 0, locals := 0 } s m args below meth c H locs 0 0 Q (F0 m 4 ls [])) (fin := fun (r : Int) => ∀ (ls : Array Slot) (H : Heap) (locs : List Loc), lv_has ls 3 [(1, .int (Int32.ofInt r))] → wH G A s.heap s (LL adr) (wf G adr (tm M)) H locs → W p l e { frames := 0, cells := 0, slots := 0, locals := 0 } s m args below meth c H locs 0 0 Q (F0 m 20 ls [])) ?_ n _ _ j3 ?_ _ _ _ (lv_sub hl [1, 0] rfl) hw
  · clear h j3 hw hl
    intro ⟨v1, v2⟩ x h k1 k2 ls H locs hl hw
    (try dsimp only at k1 k2 hl hw ⊢)
    unfold l_X8_bits_4 at h
    (try dsimp only at h)
    refine lv_iload_n hx hb dX8_bits_4 rfl (lv_at hl 1 rfl) ?_
    replace h := bnd h
    obtain ⟨_, hg, h⟩ := h
    refine o_if_eq (tgt := 20) hx hb hg dX8_bits_5 (by decide) (fun hc => ?_) (fun hc => ?_)
    · replace h := ite_t hc h
      cases h
      exact k1 _ rfl _ _ _ (lv_sub hl [0] rfl) hw
    · replace h := ite_f hc h
      refine lv_iinc (v := Int32.ofInt (v1 + 1)) (lv' := [(1, .int (Int32.ofInt (v1 + 1))), (2, .int (Int32.ofInt v2))]) hx hb dX8_bits_8 hl (k := 0) rfl (inc_o _ _) (by decide) rfl (fun ls hl => ?_)
      refine lv_iload_n hx hb dX8_bits_11 rfl (lv_at hl 1 rfl) ?_
      refine lv_iload_n hx hb dX8_bits_12 rfl (lv_at hl 1 rfl) ?_
      refine lv_iconst (v := Int32.ofInt (1)) hx hb dX8_bits_13 rfl ?_
      refine o_isub hx hb dX8_bits_14 ?_
      refine o_iand hx hb dX8_bits_15 ?_
      refine lv_istore_n (lv' := [(2, .int (Int32.ofInt (oandI v2 (v2 - (1))))), (1, .int (Int32.ofInt (v1 + 1)))]) hx hb dX8_bits_16 rfl hl (by decide) rfl (fun ls hl => ?_)
      refine lv_goto (tgt := 4) hx hb dX8_bits_17 (by decide) ?_
      cases h
      exact k2 _ rfl _ _ _ (lv_sub hl [1, 0] rfl) hw
  · clear hw hl
    intro ls H locs hl hw
    (try dsimp only at hl hw ⊢)
    refine lv_iload_n hx hb dX8_bits_20 rfl (lv_at hl 0 rfl) ?_
    cases h
    exact kr _ _ _ _ dX8_bits_21 hw
theorem cc_X8_bits {l : Launch} {G : gG} {adr : Nat → Nat} {sz : Nat} (hi : adi adr) {n : Nat} {a0 : Int} {M : MI} {r : Int} (h : f_X8_bits n a0 = some r) : mI l yX8_bits cX8_bits 3 (some .int) { frames := 0, cells := 0, slots := 0, locals := 0 } G adr [.int (Int32.ofInt a0)] (tm M) sz (Int32.ofInt r) (tm M) := by
  refine wEnter (by decide) (Nat.le_of_ble_eq_true rfl) ?_
  intro p e s m below meth c ls cx hinit hl hsz hw
  exact b_X8_bits cx hi h (fun pc ls H locs hd hw => w_iret (post := fun (r9 : Int32) (u : Mem) => r9 = Int32.ofInt r ∧ u = tm M) (lf := fun u => (LL adr, wf G adr u)) cx.1 cx.2.1 cx.2.2.1 cx.2.2.2.2.2.2 (tm M) hw ⟨rfl, rfl⟩ hd) hl hw
theorem q_131 : Cond.fieldLink RX8 154 "LiftFactorsModel" "found" "I" ∈ uU := uU_in (by decide +kernel) (by decide +kernel)
def f_X8_keep (n : Nat) (a0 : Int) (M : MI) : Option MI :=
  Option.bind (f_X8_copy n a0 ((40) + (M.2 36 11)) M) fun v1 =>
  Option.bind (opI v1 36 11 ((v1.2 36 11) + (1))) fun v2 =>
  some v2
set_option maxRecDepth 100000 in
set_option maxHeartbeats 8000000 in
theorem b_X8_keep {p : Program} {l : Launch} {e : Env} {s : State} {m : MethodId} {args : Array Value} {below : List Frame} {meth : Method} {c : Code} {Q : State → Prop} {G : gG} {A : Nat → Prop} {adr : Nat → Nat} (cx : cX p s m args meth c cX8_keep none 2 yX8_keep.cls) (hi : adi adr) {n : Nat} {a0 : Int} {M M' : MI} 
    (h : f_X8_keep n a0 M = some M')
    (kr : ∀ (pc : Nat) (ls : Array Slot) (H : Heap) (locs : List Loc), decode cX8_keep pc = .ok (.return_, 1) → wH G A s.heap s (LL adr) (wf G adr (tm M')) H locs → W p l e { frames := 1, cells := 0, slots := 0, locals := 23 } s m args below meth c H locs 0 0 Q (F0 m pc ls []))
    {ls : Array Slot} {H : Heap} {locs : List Loc} (hl : lv_has ls 2 [(0, .ref (adr 36)), (1, .int (Int32.ofInt a0))]) (hw : wH G A s.heap s (LL adr) (wf G adr (tm M)) H locs) : W p l e { frames := 1, cells := 0, slots := 0, locals := 23 } s m args below meth c H locs 0 0 Q (F0 m 0 ls []) := by
  obtain ⟨hx, hb, -, -, hown, hts, -⟩ := id cx
  have hown : s.vm.findClass RX8 = some m.cls := hown
  unfold f_X8_keep at h
  refine lv_aload_n hx hb dX8_keep_0 rfl (lv_at hl 0 rfl) ?_
  refine lv_iload_n hx hb dX8_keep_1 rfl (lv_at hl 1 rfl) ?_
  refine lv_bipush (v := Int32.ofInt (40)) hx hb dX8_keep_2 rfl ?_
  refine lv_aload_n hx hb dX8_keep_4 rfl (lv_at hl 0 rfl) ?_
  refine m_get (k := 36) (C := RX8) (T := TX8) (N := 18) (ref := "LiftFactorsModel") (v := .int (Int32.ofInt (M.2 36 11))) hx hb hi hts inX8_u hown hw (by decide) rfl 11 (by decide) q_131 rfl rfl dX8_keep_5 ?_
  refine o_iadd hx hb dX8_keep_8 ?_
  replace h := bnd h
  obtain ⟨v1, e1, h⟩ := h
  refine m_callVv (k := 36) (As := [.int (Int32.ofInt a0), .int (Int32.ofInt ((40) + (M.2 36 11)))]) (rest := []) cx.fix hi hw (cc_X8_copy (l := l) (G := G) (sz := H.size) hi e1) (by decide) rfl rfl (w_cV 2 hts q_24 q_25 q_26 q_27 q_28 rfl rfl (by decide) (by decide)) hl.1 rfl (lv_room (Nat.le_of_ble_eq_true rfl)) dX8_keep_9 (fun H locs hw => ?_)
  refine lv_aload_n hx hb dX8_keep_12 rfl (lv_at hl 0 rfl) ?_
  refine lv_dup hx hb dX8_keep_13 rfl ?_
  refine m_get (k := 36) (C := RX8) (T := TX8) (N := 18) (ref := "LiftFactorsModel") (v := .int (Int32.ofInt (v1.2 36 11))) hx hb hi hts inX8_u hown hw (by decide) rfl 11 (by decide) q_131 rfl rfl dX8_keep_14 ?_
  refine lv_iconst (v := Int32.ofInt (1)) hx hb dX8_keep_17 rfl ?_
  refine o_iadd hx hb dX8_keep_18 ?_
  replace h := bnd h
  obtain ⟨v2, e2, h⟩ := h
  refine o_putI (k := 36) (C := RX8) (T := TX8) (N := 18) (ref := "LiftFactorsModel") hx hb hi hts inX8_u tyX8 tyX8_ok nmX8 hown hw (by decide) rfl 11 (by decide) q_131 rfl rfl e2 (by decide +kernel) rfl dX8_keep_19 (fun H locs hw => ?_)
  cases h
  exact kr _ _ _ _ dX8_keep_22 hw
theorem cc_X8_keep {l : Launch} {G : gG} {adr : Nat → Nat} {sz : Nat} (hi : adi adr) {n : Nat} {a0 : Int} {M M' : MI} (h : f_X8_keep n a0 M = some M') : mV l yX8_keep cX8_keep 2 none { frames := 1, cells := 0, slots := 0, locals := 23 } G adr [.ref (adr 36), .int (Int32.ofInt a0)] (tm M) sz (tm M') := by
  refine wEnter (by decide) (Nat.le_of_ble_eq_true rfl) ?_
  intro p e s m below meth c ls cx hinit hl hsz hw
  exact b_X8_keep cx hi h (fun pc ls H locs hd hw => w_vret (post := fun (u : Mem) => u = tm M') (lf := fun u => (LL adr, wf G adr u)) cx.1 cx.2.1 cx.2.2.1 cx.2.2.2.2.2.2 (tm M') hw rfl hd) hl hw
theorem q_132 : Cond.methodLink RX8 157 yX8_derive ∈ uU := uU_in (by decide +kernel) (by decide +kernel)
theorem q_133 : Cond.instanceMethod yX8_derive ∈ uU := uU_in (by decide +kernel) (by decide +kernel)
theorem q_134 : Cond.selects yX8_derive.cls yX8_derive yX8_derive ∈ uU := uU_in (by decide +kernel) (by decide +kernel)
theorem q_135 : Cond.initialized yX8_derive.cls ∈ uU := uU_in (by decide +kernel) (by decide +kernel)
theorem q_136 : Cond.code yX8_derive cX8_derive 4 none ∈ uU := uU_in (by decide +kernel) (by decide +kernel)
theorem q_137 : Cond.methodLink RX8 160 yX8_factorModulo ∈ uU := uU_in (by decide +kernel) (by decide +kernel)
theorem q_138 : Cond.instanceMethod yX8_factorModulo ∈ uU := uU_in (by decide +kernel) (by decide +kernel)
theorem q_139 : Cond.selects yX8_factorModulo.cls yX8_factorModulo yX8_factorModulo ∈ uU := uU_in (by decide +kernel) (by decide +kernel)
theorem q_140 : Cond.initialized yX8_factorModulo.cls ∈ uU := uU_in (by decide +kernel) (by decide +kernel)
theorem q_141 : Cond.code yX8_factorModulo cX8_factorModulo 3 none ∈ uU := uU_in (by decide +kernel) (by decide +kernel)
theorem q_142 : Cond.methodLink RX8 163 yX8_bits ∈ uU := uU_in (by decide +kernel) (by decide +kernel)
theorem q_143 : Cond.static yX8_bits ∈ uU := uU_in (by decide +kernel) (by decide +kernel)
theorem q_144 : Cond.initialized yX8_bits.cls ∈ uU := uU_in (by decide +kernel) (by decide +kernel)
theorem q_145 : Cond.code yX8_bits cX8_bits 3 (some .int) ∈ uU := uU_in (by decide +kernel) (by decide +kernel)
theorem q_146 : Cond.methodLink RX8 167 yX8_candidate ∈ uU := uU_in (by decide +kernel) (by decide +kernel)
theorem q_147 : Cond.instanceMethod yX8_candidate ∈ uU := uU_in (by decide +kernel) (by decide +kernel)
theorem q_148 : Cond.selects yX8_candidate.cls yX8_candidate yX8_candidate ∈ uU := uU_in (by decide +kernel) (by decide +kernel)
theorem q_149 : Cond.initialized yX8_candidate.cls ∈ uU := uU_in (by decide +kernel) (by decide +kernel)
theorem q_150 : Cond.code yX8_candidate cX8_candidate 8 none ∈ uU := uU_in (by decide +kernel) (by decide +kernel)
theorem q_151 : Cond.methodLink RX8 170 yX8_keep ∈ uU := uU_in (by decide +kernel) (by decide +kernel)
theorem q_152 : Cond.instanceMethod yX8_keep ∈ uU := uU_in (by decide +kernel) (by decide +kernel)
theorem q_153 : Cond.selects yX8_keep.cls yX8_keep yX8_keep ∈ uU := uU_in (by decide +kernel) (by decide +kernel)
theorem q_154 : Cond.initialized yX8_keep.cls ∈ uU := uU_in (by decide +kernel) (by decide +kernel)
theorem q_155 : Cond.code yX8_keep cX8_keep 2 none ∈ uU := uU_in (by decide +kernel) (by decide +kernel)
def l_X8_factorWhole_9 (n : Nat) : MI × Int × Int → Option ((MI) ⊕ (MI × Int × Int)) := fun (M2, v3, v4) =>
  Option.bind (gI v4 0) fun _ =>
  if v4 = 0 then
    Option.bind (f_X8_takePrime v3 M2) fun v5 =>
    Option.bind (f_X8_copy n (1) (5) v5) fun v6 =>
    Option.bind (f_X8_reduce n (5) v6) fun v7 =>
    Option.bind (f_X8_monic n (5) v7) fun v8 =>
    Option.bind (f_X8_copy n (5) (12) v8) fun v9 =>
    Option.bind (f_X8_copy n (1) (2) v9) fun v10 =>
    Option.bind (f_X8_derive n (1) (2) v10) fun v11 =>
    Option.bind (f_X8_reduce n (2) v11) fun v12 =>
    Option.bind (f_X8_commonRow n (5) (2) (11) v12) fun v13 =>
    Option.bind (odI v13 42 (11)) fun v14 =>
    Option.bind (
      Option.bind (gI v14 0) fun _ =>
      if v14 = 0 then
        some (1)
      else
        some (0)) fun v15 =>
    some (.inr (v13, v3 + 1, v15))
  else
    some (.inl M2)
def l_X8_factorWhole_125 (n : Nat) (v23 : Int) : MI × Int × Int → Option ((MI × Int) ⊕ (MI × Int × Int)) := fun (M25, v26, v27) =>
  Option.bind (gI v27 (oshlI (1) (M25.2 36 10))) fun _ =>
  if (oshlI (1) (M25.2 36 10)) ≤ v27 then
    some (.inl (M25, v26))
  else
    Option.bind (
      Option.bind (gI (oandI v27 (oxorI v26 (-1))) 0) fun _ =>
      if (oandI v27 (oxorI v26 (-1))) = 0 then
        Option.bind (f_X8_bits n v27) fun v28 =>
        Option.bind (gI v28 v23) fun _ =>
        if v28 = v23 then
          Option.bind (f_X8_bits n v26) fun v29 =>
          Option.bind (gI ((2) * v23) v29) fun _ =>
          if v29 < ((2) * v23) then
            some (M25, v26)
          else
            Option.bind (f_X8_candidate n v27 M25) fun v30 =>
            Option.bind (f_X8_divides n (7) (19) (20000000) v30) fun (v31, M32) =>
            Option.bind (gI v31 0) fun _ =>
            if v31 = 0 then
              some (M32, v26)
            else
              Option.bind (f_X8_keep n (7) M32) fun v33 =>
              Option.bind (f_X8_copy n (3) (19) v33) fun v34 =>
              some (v34, oandI v26 (oxorI v27 (-1)))
        else
          some (M25, v26)
      else
        some (M25, v26)) fun (M35, v36) =>
    some (.inr (M35, v36, v27 + 1))
def l_X8_factorWhole_111 (n : Nat) : MI × Int × Int → Option ((MI) ⊕ (MI × Int × Int)) := fun (M21, v22, v23) =>
  Option.bind (f_X8_bits n v22) fun v24 =>
  Option.bind (gI ((2) * v23) v24) fun _ =>
  if v24 < ((2) * v23) then
    some (.inl M21)
  else
    Option.bind (lpF (l_X8_factorWhole_125 n v23) n (M21, v22, (1))) fun (M39, v40) =>
    some (.inr (M39, v40, v23 + 1))
def f_X8_factorWhole (n : Nat) (M : MI) : Option MI :=
  Option.bind (opI M 36 11 (0)) fun v1 =>
  Option.bind (lpF (l_X8_factorWhole_9 n) n (v1, (0), (0))) fun M18 =>
  Option.bind (f_X8_factorModulo n M18) fun v19 =>
  Option.bind (f_X8_copy n (1) (19) v19) fun v20 =>
  Option.bind (lpF (l_X8_factorWhole_111 n) n (v20, (oshlI (1) (v20.2 36 10)) - (1), (1))) fun M42 =>
  Option.bind (odI M42 42 (19)) fun v43 =>
  Option.bind (
    Option.bind (gI v43 0) fun _ =>
    if v43 ≤ 0 then
      some M42
    else
      Option.bind (f_X8_keep n (19) M42) fun v44 =>
      some v44) fun M45 =>
  some M45
set_option maxRecDepth 100000 in
set_option maxHeartbeats 8000000 in
theorem b_X8_factorWhole {p : Program} {l : Launch} {e : Env} {s : State} {m : MethodId} {args : Array Value} {below : List Frame} {meth : Method} {c : Code} {Q : State → Prop} {G : gG} {A : Nat → Prop} {adr : Nat → Nat} (cx : cX p s m args meth c cX8_factorWhole none 6 yX8_factorWhole.cls) (hi : adi adr) {n : Nat} {M M' : MI} 
    (h : f_X8_factorWhole n M = some M')
    (kr : ∀ (pc : Nat) (ls : Array Slot) (H : Heap) (locs : List Loc), decode cX8_factorWhole pc = .ok (.return_, 1) → wH G A s.heap s (LL adr) (wf G adr (tm M')) H locs → W p l e { frames := 7, cells := 0, slots := 0, locals := 183 } s m args below meth c H locs 0 0 Q (F0 m pc ls []))
    {ls : Array Slot} {H : Heap} {locs : List Loc} (hl : lv_has ls 6 [(0, .ref (adr 36))]) (hw : wH G A s.heap s (LL adr) (wf G adr (tm M)) H locs) : W p l e { frames := 7, cells := 0, slots := 0, locals := 183 } s m args below meth c H locs 0 0 Q (F0 m 0 ls []) := by
  obtain ⟨hx, hb, -, -, hown, hts, -⟩ := id cx
  have hown : s.vm.findClass RX8 = some m.cls := hown
  unfold f_X8_factorWhole at h
  refine lv_aload_n hx hb dX8_factorWhole_0 rfl (lv_at hl 0 rfl) ?_
  refine lv_iconst (v := Int32.ofInt (0)) hx hb dX8_factorWhole_1 rfl ?_
  replace h := bnd h
  obtain ⟨v1, e1, h⟩ := h
  refine o_putI (k := 36) (C := RX8) (T := TX8) (N := 18) (ref := "LiftFactorsModel") hx hb hi hts inX8_u tyX8 tyX8_ok nmX8 hown hw (by decide) rfl 11 (by decide) q_131 rfl rfl e1 (by decide +kernel) rfl dX8_factorWhole_2 (fun H locs hw => ?_)
  refine lv_iconst (v := Int32.ofInt (0)) hx hb dX8_factorWhole_5 rfl ?_
  refine lv_istore_n (lv' := [(1, .int (Int32.ofInt (0))), (0, .ref (adr 36))]) hx hb dX8_factorWhole_6 rfl hl (by decide) rfl (fun ls hl => ?_)
  refine lv_iconst (v := Int32.ofInt (0)) hx hb dX8_factorWhole_7 rfl ?_
  refine lv_istore_n (lv' := [(2, .int (Int32.ofInt (0))), (1, .int (Int32.ofInt (0))), (0, .ref (adr 36))]) hx hb dX8_factorWhole_8 rfl hl (by decide) rfl (fun ls hl => ?_)
  replace h := bnd h
  obtain ⟨M18, j17, h⟩ := h
  refine lp_W (Wst := fun (st : MI × Int × Int) => ∀ (ls : Array Slot) (H : Heap) (locs : List Loc), lv_has ls 6 [(0, .ref (adr 36)), (1, .int (Int32.ofInt st.2.1)), (2, .int (Int32.ofInt st.2.2))] → wH G A s.heap s (LL adr) (wf G adr (tm st.1)) H locs → W p l e { frames := 7, cells := 0, slots := 0, locals := 183 } s m args below meth c H locs 0 0 Q (F0 m 9 ls [])) (fin := fun (r : MI) => ∀ (ls : Array Slot) (H : Heap) (locs : List Loc), lv_has ls 6 [(0, .ref (adr 36))] → wH G A s.heap s (LL adr) (wf G adr (tm r)) H locs → W p l e { frames := 7, cells := 0, slots := 0, locals := 183 } s m args below meth c H locs 0 0 Q (F0 m 88 ls [])) ?_ n _ _ j17 ?_ _ _ _ (lv_sub hl [2, 1, 0] rfl) hw
  · clear h j17 hw hl
    intro ⟨M2, v3, v4⟩ x h k1 k2 ls H locs hl hw
    (try dsimp only at k1 k2 hl hw ⊢)
    unfold l_X8_factorWhole_9 at h
    (try dsimp only at h)
    refine lv_iload_n hx hb dX8_factorWhole_9 rfl (lv_at hl 2 rfl) ?_
    replace h := bnd h
    obtain ⟨_, hg, h⟩ := h
    refine o_if_ne (tgt := 88) hx hb hg dX8_factorWhole_10 (by decide) (fun hc => ?_) (fun hc => ?_)
    · replace h := ite_f hc h
      cases h
      exact k1 _ rfl _ _ _ (lv_sub hl [0] rfl) hw
    · replace h := ite_t hc h
      refine lv_aload_n hx hb dX8_factorWhole_13 rfl (lv_at hl 0 rfl) ?_
      refine lv_iload_n hx hb dX8_factorWhole_14 rfl (lv_at hl 1 rfl) ?_
      replace h := bnd h
      obtain ⟨v5, e5, h⟩ := h
      refine m_callVv (k := 36) (As := [.int (Int32.ofInt v3)]) (rest := []) cx.fix hi hw (cc_X8_takePrime (l := l) (G := G) (sz := H.size) hi e5) (by decide) rfl rfl (w_cV 1 hts q_69 q_70 q_71 q_72 q_73 rfl rfl (by decide) (by decide)) hl.1 rfl (lv_room (Nat.le_of_ble_eq_true rfl)) dX8_factorWhole_15 (fun H locs hw => ?_)
      refine lv_aload_n hx hb dX8_factorWhole_18 rfl (lv_at hl 0 rfl) ?_
      refine lv_iconst (v := Int32.ofInt (1)) hx hb dX8_factorWhole_19 rfl ?_
      refine lv_iconst (v := Int32.ofInt (5)) hx hb dX8_factorWhole_20 rfl ?_
      replace h := bnd h
      obtain ⟨v6, e6, h⟩ := h
      refine m_callVv (k := 36) (As := [.int (Int32.ofInt (1)), .int (Int32.ofInt (5))]) (rest := []) cx.fix hi hw (cc_X8_copy (l := l) (G := G) (sz := H.size) hi e6) (by decide) rfl rfl (w_cV 2 hts q_24 q_25 q_26 q_27 q_28 rfl rfl (by decide) (by decide)) hl.1 rfl (lv_room (Nat.le_of_ble_eq_true rfl)) dX8_factorWhole_21 (fun H locs hw => ?_)
      refine lv_aload_n hx hb dX8_factorWhole_24 rfl (lv_at hl 0 rfl) ?_
      refine lv_iconst (v := Int32.ofInt (5)) hx hb dX8_factorWhole_25 rfl ?_
      replace h := bnd h
      obtain ⟨v7, e7, h⟩ := h
      refine m_callVv (k := 36) (As := [.int (Int32.ofInt (5))]) (rest := []) cx.fix hi hw (cc_X8_reduce (l := l) (G := G) (sz := H.size) hi e7) (by decide) rfl rfl (w_cV 1 hts q_74 q_75 q_76 q_77 q_78 rfl rfl (by decide) (by decide)) hl.1 rfl (lv_room (Nat.le_of_ble_eq_true rfl)) dX8_factorWhole_26 (fun H locs hw => ?_)
      refine lv_aload_n hx hb dX8_factorWhole_29 rfl (lv_at hl 0 rfl) ?_
      refine lv_iconst (v := Int32.ofInt (5)) hx hb dX8_factorWhole_30 rfl ?_
      replace h := bnd h
      obtain ⟨v8, e8, h⟩ := h
      refine m_callVv (k := 36) (As := [.int (Int32.ofInt (5))]) (rest := []) cx.fix hi hw (cc_X8_monic (l := l) (G := G) (sz := H.size) hi e8) (by decide) rfl rfl (w_cV 1 hts q_57 q_58 q_59 q_60 q_61 rfl rfl (by decide) (by decide)) hl.1 rfl (lv_room (Nat.le_of_ble_eq_true rfl)) dX8_factorWhole_31 (fun H locs hw => ?_)
      refine lv_aload_n hx hb dX8_factorWhole_34 rfl (lv_at hl 0 rfl) ?_
      refine lv_iconst (v := Int32.ofInt (5)) hx hb dX8_factorWhole_35 rfl ?_
      refine lv_bipush (v := Int32.ofInt (12)) hx hb dX8_factorWhole_36 rfl ?_
      replace h := bnd h
      obtain ⟨v9, e9, h⟩ := h
      refine m_callVv (k := 36) (As := [.int (Int32.ofInt (5)), .int (Int32.ofInt (12))]) (rest := []) cx.fix hi hw (cc_X8_copy (l := l) (G := G) (sz := H.size) hi e9) (by decide) rfl rfl (w_cV 2 hts q_24 q_25 q_26 q_27 q_28 rfl rfl (by decide) (by decide)) hl.1 rfl (lv_room (Nat.le_of_ble_eq_true rfl)) dX8_factorWhole_38 (fun H locs hw => ?_)
      refine lv_aload_n hx hb dX8_factorWhole_41 rfl (lv_at hl 0 rfl) ?_
      refine lv_iconst (v := Int32.ofInt (1)) hx hb dX8_factorWhole_42 rfl ?_
      refine lv_iconst (v := Int32.ofInt (2)) hx hb dX8_factorWhole_43 rfl ?_
      replace h := bnd h
      obtain ⟨v10, e10, h⟩ := h
      refine m_callVv (k := 36) (As := [.int (Int32.ofInt (1)), .int (Int32.ofInt (2))]) (rest := []) cx.fix hi hw (cc_X8_copy (l := l) (G := G) (sz := H.size) hi e10) (by decide) rfl rfl (w_cV 2 hts q_24 q_25 q_26 q_27 q_28 rfl rfl (by decide) (by decide)) hl.1 rfl (lv_room (Nat.le_of_ble_eq_true rfl)) dX8_factorWhole_44 (fun H locs hw => ?_)
      refine lv_aload_n hx hb dX8_factorWhole_47 rfl (lv_at hl 0 rfl) ?_
      refine lv_iconst (v := Int32.ofInt (1)) hx hb dX8_factorWhole_48 rfl ?_
      refine lv_iconst (v := Int32.ofInt (2)) hx hb dX8_factorWhole_49 rfl ?_
      replace h := bnd h
      obtain ⟨v11, e11, h⟩ := h
      refine m_callVv (k := 36) (As := [.int (Int32.ofInt (1)), .int (Int32.ofInt (2))]) (rest := []) cx.fix hi hw (cc_X8_derive (l := l) (G := G) (sz := H.size) hi e11) (by decide) rfl rfl (w_cV 2 hts q_132 q_133 q_134 q_135 q_136 rfl rfl (by decide) (by decide)) hl.1 rfl (lv_room (Nat.le_of_ble_eq_true rfl)) dX8_factorWhole_50 (fun H locs hw => ?_)
      refine lv_aload_n hx hb dX8_factorWhole_53 rfl (lv_at hl 0 rfl) ?_
      refine lv_iconst (v := Int32.ofInt (2)) hx hb dX8_factorWhole_54 rfl ?_
      replace h := bnd h
      obtain ⟨v12, e12, h⟩ := h
      refine m_callVv (k := 36) (As := [.int (Int32.ofInt (2))]) (rest := []) cx.fix hi hw (cc_X8_reduce (l := l) (G := G) (sz := H.size) hi e12) (by decide) rfl rfl (w_cV 1 hts q_74 q_75 q_76 q_77 q_78 rfl rfl (by decide) (by decide)) hl.1 rfl (lv_room (Nat.le_of_ble_eq_true rfl)) dX8_factorWhole_55 (fun H locs hw => ?_)
      refine lv_aload_n hx hb dX8_factorWhole_58 rfl (lv_at hl 0 rfl) ?_
      refine lv_iconst (v := Int32.ofInt (5)) hx hb dX8_factorWhole_59 rfl ?_
      refine lv_iconst (v := Int32.ofInt (2)) hx hb dX8_factorWhole_60 rfl ?_
      refine lv_bipush (v := Int32.ofInt (11)) hx hb dX8_factorWhole_61 rfl ?_
      replace h := bnd h
      obtain ⟨v13, e13, h⟩ := h
      refine m_callVv (k := 36) (As := [.int (Int32.ofInt (5)), .int (Int32.ofInt (2)), .int (Int32.ofInt (11))]) (rest := []) cx.fix hi hw (cc_X8_commonRow (l := l) (G := G) (sz := H.size) hi e13) (by decide) rfl rfl (w_cV 3 hts q_79 q_80 q_81 q_82 q_83 rfl rfl (by decide) (by decide)) hl.1 rfl (lv_room (Nat.le_of_ble_eq_true rfl)) dX8_factorWhole_63 (fun H locs hw => ?_)
      refine lv_aload_n hx hb dX8_factorWhole_66 rfl (lv_at hl 0 rfl) ?_
      refine m_get (k := 36) (C := RX8) (T := TX8) (N := 18) (ref := "LiftFactorsModel") (v := .ref (adr 42)) hx hb hi hts inX8_u hown hw (by decide) rfl 8 (by decide) q_1 rfl rfl dX8_factorWhole_67 ?_
      refine lv_bipush (v := Int32.ofInt (11)) hx hb dX8_factorWhole_70 rfl ?_
      replace h := bnd h
      obtain ⟨v14, e14, h⟩ := h
      refine o_iald hx hb hi hw e14 dX8_factorWhole_72 ?_
      replace h := bnd h
      obtain ⟨v15, j16, h⟩ := h
      have kj : ∀ (ls : Array Slot) (H : Heap) (locs : List Loc), lv_has ls 6 [(0, .ref (adr 36)), (1, .int (Int32.ofInt v3))] → wH G A s.heap s (LL adr) (wf G adr (tm v13)) H locs → W p l e { frames := 7, cells := 0, slots := 0, locals := 183 } s m args below meth c H locs 0 0 Q (F0 m 81 ls [.int (Int32.ofInt v15)]) := by
        intro ls H locs hl hw
        refine lv_istore_n (lv' := [(2, .int (Int32.ofInt v15)), (0, .ref (adr 36)), (1, .int (Int32.ofInt v3))]) hx hb dX8_factorWhole_81 rfl hl (by decide) rfl (fun ls hl => ?_)
        refine lv_iinc (v := Int32.ofInt (v3 + 1)) (lv' := [(1, .int (Int32.ofInt (v3 + 1))), (2, .int (Int32.ofInt v15)), (0, .ref (adr 36))]) hx hb dX8_factorWhole_82 hl (k := 2) rfl (inc_o _ _) (by decide) rfl (fun ls hl => ?_)
        refine lv_goto (tgt := 9) hx hb dX8_factorWhole_85 (by decide) ?_
        cases h
        exact k2 _ rfl _ _ _ (lv_sub hl [2, 0, 1] rfl) hw
      clear h
      replace h := j16
      clear j16
      replace h := bnd h
      obtain ⟨_, hg, h⟩ := h
      refine o_if_ne (tgt := 80) hx hb hg dX8_factorWhole_73 (by decide) (fun hc => ?_) (fun hc => ?_)
      · replace h := ite_f hc h
        refine lv_iconst (v := Int32.ofInt (0)) hx hb dX8_factorWhole_80 rfl ?_
        cases h
        exact kj _ _ _ (lv_sub hl [0, 1] rfl) hw
      · replace h := ite_t hc h
        refine lv_iconst (v := Int32.ofInt (1)) hx hb dX8_factorWhole_76 rfl ?_
        refine lv_goto (tgt := 81) hx hb dX8_factorWhole_77 (by decide) ?_
        cases h
        exact kj _ _ _ (lv_sub hl [0, 1] rfl) hw
  · clear hw hl
    intro ls H locs hl hw
    (try dsimp only at hl hw ⊢)
    refine lv_aload_n hx hb dX8_factorWhole_88 rfl (lv_at hl 0 rfl) ?_
    replace h := bnd h
    obtain ⟨v19, e19, h⟩ := h
    refine m_callVv (k := 36) (As := []) (rest := []) cx.fix hi hw (cc_X8_factorModulo (l := l) (G := G) (sz := H.size) hi e19) (by decide) rfl rfl (w_cV 0 hts q_137 q_138 q_139 q_140 q_141 rfl rfl (by decide) (by decide)) hl.1 rfl (lv_room (Nat.le_of_ble_eq_true rfl)) dX8_factorWhole_89 (fun H locs hw => ?_)
    refine lv_aload_n hx hb dX8_factorWhole_92 rfl (lv_at hl 0 rfl) ?_
    refine lv_iconst (v := Int32.ofInt (1)) hx hb dX8_factorWhole_93 rfl ?_
    refine lv_bipush (v := Int32.ofInt (19)) hx hb dX8_factorWhole_94 rfl ?_
    replace h := bnd h
    obtain ⟨v20, e20, h⟩ := h
    refine m_callVv (k := 36) (As := [.int (Int32.ofInt (1)), .int (Int32.ofInt (19))]) (rest := []) cx.fix hi hw (cc_X8_copy (l := l) (G := G) (sz := H.size) hi e20) (by decide) rfl rfl (w_cV 2 hts q_24 q_25 q_26 q_27 q_28 rfl rfl (by decide) (by decide)) hl.1 rfl (lv_room (Nat.le_of_ble_eq_true rfl)) dX8_factorWhole_96 (fun H locs hw => ?_)
    refine lv_iconst (v := Int32.ofInt (1)) hx hb dX8_factorWhole_99 rfl ?_
    refine lv_aload_n hx hb dX8_factorWhole_100 rfl (lv_at hl 0 rfl) ?_
    refine m_get (k := 36) (C := RX8) (T := TX8) (N := 18) (ref := "LiftFactorsModel") (v := .int (Int32.ofInt (v20.2 36 10))) hx hb hi hts inX8_u hown hw (by decide) rfl 10 (by decide) q_95 rfl rfl dX8_factorWhole_101 ?_
    refine o_ishl hx hb dX8_factorWhole_104 ?_
    refine lv_iconst (v := Int32.ofInt (1)) hx hb dX8_factorWhole_105 rfl ?_
    refine o_isub hx hb dX8_factorWhole_106 ?_
    refine lv_istore_n (lv' := [(3, .int (Int32.ofInt ((oshlI (1) (v20.2 36 10)) - (1)))), (0, .ref (adr 36))]) hx hb dX8_factorWhole_107 rfl hl (by decide) rfl (fun ls hl => ?_)
    refine lv_iconst (v := Int32.ofInt (1)) hx hb dX8_factorWhole_108 rfl ?_
    refine lv_istore (lv' := [(4, .int (Int32.ofInt (1))), (3, .int (Int32.ofInt ((oshlI (1) (v20.2 36 10)) - (1)))), (0, .ref (adr 36))]) hx hb dX8_factorWhole_109 hl (by decide) rfl (fun ls hl => ?_)
    replace h := bnd h
    obtain ⟨M42, j41, h⟩ := h
    refine lp_W (Wst := fun (st : MI × Int × Int) => ∀ (ls : Array Slot) (H : Heap) (locs : List Loc), lv_has ls 6 [(0, .ref (adr 36)), (3, .int (Int32.ofInt st.2.1)), (4, .int (Int32.ofInt st.2.2))] → wH G A s.heap s (LL adr) (wf G adr (tm st.1)) H locs → W p l e { frames := 7, cells := 0, slots := 0, locals := 183 } s m args below meth c H locs 0 0 Q (F0 m 111 ls [])) (fin := fun (r : MI) => ∀ (ls : Array Slot) (H : Heap) (locs : List Loc), lv_has ls 6 [(0, .ref (adr 36))] → wH G A s.heap s (LL adr) (wf G adr (tm r)) H locs → W p l e { frames := 7, cells := 0, slots := 0, locals := 183 } s m args below meth c H locs 0 0 Q (F0 m 218 ls [])) ?_ n _ _ j41 ?_ _ _ _ (lv_sub hl [2, 1, 0] rfl) hw
    · clear h j41 hw hl
      intro ⟨M21, v22, v23⟩ x h k1 k2 ls H locs hl hw
      (try dsimp only at k1 k2 hl hw ⊢)
      unfold l_X8_factorWhole_111 at h
      (try dsimp only at h)
      refine lv_iconst (v := Int32.ofInt (2)) hx hb dX8_factorWhole_111 rfl ?_
      refine lv_iload hx hb dX8_factorWhole_112 (lv_at hl 2 rfl) ?_
      refine o_imul hx hb dX8_factorWhole_114 ?_
      refine lv_iload_n hx hb dX8_factorWhole_115 rfl (lv_at hl 1 rfl) ?_
      replace h := bnd h
      obtain ⟨v24, e24, h⟩ := h
      refine m_callSi (As := [.int (Int32.ofInt v22)]) (rest := [.int (Int32.ofInt ((2) * v23))]) cx.fix hw (cc_X8_bits (l := l) (G := G) (sz := H.size) (M := M21) hi e24) (w_cS 1 hts q_142 q_143 q_144 q_145 rfl rfl (by decide) (by decide)) hl.1 rfl (lv_room (Nat.le_of_ble_eq_true rfl)) dX8_factorWhole_116 (fun H locs hw => ?_)
      replace h := bnd h
      obtain ⟨_, hg, h⟩ := h
      refine o_icmp_gt (tgt := 218) hx hb hg dX8_factorWhole_119 (by decide) (fun hc => ?_) (fun hc => ?_)
      · replace h := ite_t hc h
        cases h
        exact k1 _ rfl _ _ _ (lv_sub hl [0] rfl) hw
      · replace h := ite_f hc h
        refine lv_iconst (v := Int32.ofInt (1)) hx hb dX8_factorWhole_122 rfl ?_
        refine lv_istore (lv' := [(5, .int (Int32.ofInt (1))), (0, .ref (adr 36)), (3, .int (Int32.ofInt v22)), (4, .int (Int32.ofInt v23))]) hx hb dX8_factorWhole_123 hl (by decide) rfl (fun ls hl => ?_)
        replace h := bnd h
        obtain ⟨⟨M39, v40⟩, j38, h⟩ := h
        refine lp_W (Wst := fun (st : MI × Int × Int) => ∀ (ls : Array Slot) (H : Heap) (locs : List Loc), lv_has ls 6 [(0, .ref (adr 36)), (3, .int (Int32.ofInt st.2.1)), (4, .int (Int32.ofInt v23)), (5, .int (Int32.ofInt st.2.2))] → wH G A s.heap s (LL adr) (wf G adr (tm st.1)) H locs → W p l e { frames := 7, cells := 0, slots := 0, locals := 183 } s m args below meth c H locs 0 0 Q (F0 m 125 ls [])) (fin := fun (r : MI × Int) => ∀ (ls : Array Slot) (H : Heap) (locs : List Loc), lv_has ls 6 [(0, .ref (adr 36)), (3, .int (Int32.ofInt r.2)), (4, .int (Int32.ofInt v23))] → wH G A s.heap s (LL adr) (wf G adr (tm r.1)) H locs → W p l e { frames := 7, cells := 0, slots := 0, locals := 183 } s m args below meth c H locs 0 0 Q (F0 m 212 ls [])) ?_ n _ _ j38 ?_ _ _ _ (lv_sub hl [1, 2, 3, 0] rfl) hw
        · clear h j38 hw hl
          intro ⟨M25, v26, v27⟩ x h k1 k2 ls H locs hl hw
          (try dsimp only at k1 k2 hl hw ⊢)
          unfold l_X8_factorWhole_125 at h
          (try dsimp only at h)
          refine lv_iload hx hb dX8_factorWhole_125 (lv_at hl 3 rfl) ?_
          refine lv_iconst (v := Int32.ofInt (1)) hx hb dX8_factorWhole_127 rfl ?_
          refine lv_aload_n hx hb dX8_factorWhole_128 rfl (lv_at hl 0 rfl) ?_
          refine m_get (k := 36) (C := RX8) (T := TX8) (N := 18) (ref := "LiftFactorsModel") (v := .int (Int32.ofInt (M25.2 36 10))) hx hb hi hts inX8_u hown hw (by decide) rfl 10 (by decide) q_95 rfl rfl dX8_factorWhole_129 ?_
          refine o_ishl hx hb dX8_factorWhole_132 ?_
          replace h := bnd h
          obtain ⟨_, hg, h⟩ := h
          refine o_icmp_ge (tgt := 212) hx hb hg dX8_factorWhole_133 (by decide) (fun hc => ?_) (fun hc => ?_)
          · replace h := ite_t hc h
            cases h
            exact k1 _ rfl _ _ _ (lv_sub hl [0, 1, 2] rfl) hw
          · replace h := ite_f hc h
            refine lv_iload hx hb dX8_factorWhole_136 (lv_at hl 3 rfl) ?_
            refine lv_iload_n hx hb dX8_factorWhole_138 rfl (lv_at hl 1 rfl) ?_
            refine lv_iconst (v := Int32.ofInt (-1)) hx hb dX8_factorWhole_139 rfl ?_
            refine o_ixor hx hb dX8_factorWhole_140 ?_
            refine o_iand hx hb dX8_factorWhole_141 ?_
            replace h := bnd h
            obtain ⟨⟨M35, v36⟩, j37, h⟩ := h
            have kj : ∀ (ls : Array Slot) (H : Heap) (locs : List Loc), lv_has ls 6 [(0, .ref (adr 36)), (3, .int (Int32.ofInt v36)), (4, .int (Int32.ofInt v23)), (5, .int (Int32.ofInt v27))] → wH G A s.heap s (LL adr) (wf G adr (tm M35)) H locs → W p l e { frames := 7, cells := 0, slots := 0, locals := 183 } s m args below meth c H locs 0 0 Q (F0 m 206 ls []) := by
              intro ls H locs hl hw
              refine lv_iinc (v := Int32.ofInt (v27 + 1)) (lv' := [(5, .int (Int32.ofInt (v27 + 1))), (0, .ref (adr 36)), (3, .int (Int32.ofInt v36)), (4, .int (Int32.ofInt v23))]) hx hb dX8_factorWhole_206 hl (k := 3) rfl (inc_o _ _) (by decide) rfl (fun ls hl => ?_)
              refine lv_goto (tgt := 125) hx hb dX8_factorWhole_209 (by decide) ?_
              cases h
              exact k2 _ rfl _ _ _ (lv_sub hl [1, 2, 3, 0] rfl) hw
            clear h
            replace h := j37
            clear j37
            replace h := bnd h
            obtain ⟨_, hg, h⟩ := h
            refine o_if_ne (tgt := 206) hx hb hg dX8_factorWhole_142 (by decide) (fun hc => ?_) (fun hc => ?_)
            · replace h := ite_f hc h
              cases h
              exact kj _ _ _ (lv_sub hl [0, 1, 2, 3] rfl) hw
            · replace h := ite_t hc h
              refine lv_iload hx hb dX8_factorWhole_145 (lv_at hl 3 rfl) ?_
              replace h := bnd h
              obtain ⟨v28, e28, h⟩ := h
              refine m_callSi (As := [.int (Int32.ofInt v27)]) (rest := []) cx.fix hw (cc_X8_bits (l := l) (G := G) (sz := H.size) (M := M25) hi e28) (w_cS 1 hts q_142 q_143 q_144 q_145 rfl rfl (by decide) (by decide)) hl.1 rfl (lv_room (Nat.le_of_ble_eq_true rfl)) dX8_factorWhole_147 (fun H locs hw => ?_)
              refine lv_iload hx hb dX8_factorWhole_150 (lv_at hl 2 rfl) ?_
              replace h := bnd h
              obtain ⟨_, hg, h⟩ := h
              refine o_icmp_ne (tgt := 206) hx hb hg dX8_factorWhole_152 (by decide) (fun hc => ?_) (fun hc => ?_)
              · replace h := ite_f hc h
                cases h
                exact kj _ _ _ (lv_sub hl [0, 1, 2, 3] rfl) hw
              · replace h := ite_t hc h
                refine lv_iconst (v := Int32.ofInt (2)) hx hb dX8_factorWhole_155 rfl ?_
                refine lv_iload hx hb dX8_factorWhole_156 (lv_at hl 2 rfl) ?_
                refine o_imul hx hb dX8_factorWhole_158 ?_
                refine lv_iload_n hx hb dX8_factorWhole_159 rfl (lv_at hl 1 rfl) ?_
                replace h := bnd h
                obtain ⟨v29, e29, h⟩ := h
                refine m_callSi (As := [.int (Int32.ofInt v26)]) (rest := [.int (Int32.ofInt ((2) * v23))]) cx.fix hw (cc_X8_bits (l := l) (G := G) (sz := H.size) (M := M25) hi e29) (w_cS 1 hts q_142 q_143 q_144 q_145 rfl rfl (by decide) (by decide)) hl.1 rfl (lv_room (Nat.le_of_ble_eq_true rfl)) dX8_factorWhole_160 (fun H locs hw => ?_)
                replace h := bnd h
                obtain ⟨_, hg, h⟩ := h
                refine o_icmp_gt (tgt := 206) hx hb hg dX8_factorWhole_163 (by decide) (fun hc => ?_) (fun hc => ?_)
                · replace h := ite_t hc h
                  cases h
                  exact kj _ _ _ (lv_sub hl [0, 1, 2, 3] rfl) hw
                · replace h := ite_f hc h
                  refine lv_aload_n hx hb dX8_factorWhole_166 rfl (lv_at hl 0 rfl) ?_
                  refine lv_iload hx hb dX8_factorWhole_167 (lv_at hl 3 rfl) ?_
                  replace h := bnd h
                  obtain ⟨v30, e30, h⟩ := h
                  refine m_callVv (k := 36) (As := [.int (Int32.ofInt v27)]) (rest := []) cx.fix hi hw (cc_X8_candidate (l := l) (G := G) (sz := H.size) hi e30) (by decide) rfl rfl (w_cV 1 hts q_146 q_147 q_148 q_149 q_150 rfl rfl (by decide) (by decide)) hl.1 rfl (lv_room (Nat.le_of_ble_eq_true rfl)) dX8_factorWhole_169 (fun H locs hw => ?_)
                  refine lv_aload_n hx hb dX8_factorWhole_172 rfl (lv_at hl 0 rfl) ?_
                  refine lv_bipush (v := Int32.ofInt (7)) hx hb dX8_factorWhole_173 rfl ?_
                  refine lv_bipush (v := Int32.ofInt (19)) hx hb dX8_factorWhole_175 rfl ?_
                  refine lv_ldc2 (v := Int64.ofInt (20000000)) hx hb hown (hts _ q_23) dX8_factorWhole_177 ?_
                  replace h := bnd h
                  obtain ⟨⟨v31, M32⟩, e31, h⟩ := h
                  refine m_callVi (k := 36) (As := [.int (Int32.ofInt (7)), .int (Int32.ofInt (19)), .long (Int64.ofInt (20000000))]) (rest := []) cx.fix hi hw (cc_X8_divides (l := l) (G := G) (sz := H.size) hi e31) (by decide) rfl rfl (w_cV 3 hts q_90 q_91 q_92 q_93 q_94 rfl rfl (by decide) (by decide)) hl.1 rfl (lv_room (Nat.le_of_ble_eq_true rfl)) dX8_factorWhole_180 (fun H locs hw => ?_)
                  replace h := bnd h
                  obtain ⟨_, hg, h⟩ := h
                  refine o_if_eq (tgt := 206) hx hb hg dX8_factorWhole_183 (by decide) (fun hc => ?_) (fun hc => ?_)
                  · replace h := ite_t hc h
                    cases h
                    exact kj _ _ _ (lv_sub hl [0, 1, 2, 3] rfl) hw
                  · replace h := ite_f hc h
                    refine lv_aload_n hx hb dX8_factorWhole_186 rfl (lv_at hl 0 rfl) ?_
                    refine lv_bipush (v := Int32.ofInt (7)) hx hb dX8_factorWhole_187 rfl ?_
                    replace h := bnd h
                    obtain ⟨v33, e33, h⟩ := h
                    refine m_callVv (k := 36) (As := [.int (Int32.ofInt (7))]) (rest := []) cx.fix hi hw (cc_X8_keep (l := l) (G := G) (sz := H.size) hi e33) (by decide) rfl rfl (w_cV 1 hts q_151 q_152 q_153 q_154 q_155 rfl rfl (by decide) (by decide)) hl.1 rfl (lv_room (Nat.le_of_ble_eq_true rfl)) dX8_factorWhole_189 (fun H locs hw => ?_)
                    refine lv_aload_n hx hb dX8_factorWhole_192 rfl (lv_at hl 0 rfl) ?_
                    refine lv_iconst (v := Int32.ofInt (3)) hx hb dX8_factorWhole_193 rfl ?_
                    refine lv_bipush (v := Int32.ofInt (19)) hx hb dX8_factorWhole_194 rfl ?_
                    replace h := bnd h
                    obtain ⟨v34, e34, h⟩ := h
                    refine m_callVv (k := 36) (As := [.int (Int32.ofInt (3)), .int (Int32.ofInt (19))]) (rest := []) cx.fix hi hw (cc_X8_copy (l := l) (G := G) (sz := H.size) hi e34) (by decide) rfl rfl (w_cV 2 hts q_24 q_25 q_26 q_27 q_28 rfl rfl (by decide) (by decide)) hl.1 rfl (lv_room (Nat.le_of_ble_eq_true rfl)) dX8_factorWhole_196 (fun H locs hw => ?_)
                    refine lv_iload_n hx hb dX8_factorWhole_199 rfl (lv_at hl 1 rfl) ?_
                    refine lv_iload hx hb dX8_factorWhole_200 (lv_at hl 3 rfl) ?_
                    refine lv_iconst (v := Int32.ofInt (-1)) hx hb dX8_factorWhole_202 rfl ?_
                    refine o_ixor hx hb dX8_factorWhole_203 ?_
                    refine o_iand hx hb dX8_factorWhole_204 ?_
                    refine lv_istore_n (lv' := [(3, .int (Int32.ofInt (oandI v26 (oxorI v27 (-1))))), (0, .ref (adr 36)), (4, .int (Int32.ofInt v23)), (5, .int (Int32.ofInt v27))]) hx hb dX8_factorWhole_205 rfl hl (by decide) rfl (fun ls hl => ?_)
                    cases h
                    exact kj _ _ _ (lv_sub hl [1, 0, 2, 3] rfl) hw
        · clear hw hl
          intro ls H locs hl hw
          (try dsimp only at hl hw ⊢)
          refine lv_iinc (v := Int32.ofInt (v23 + 1)) (lv' := [(4, .int (Int32.ofInt (v23 + 1))), (0, .ref (adr 36)), (3, .int (Int32.ofInt v40))]) hx hb dX8_factorWhole_212 hl (k := 2) rfl (inc_o _ _) (by decide) rfl (fun ls hl => ?_)
          refine lv_goto (tgt := 111) hx hb dX8_factorWhole_215 (by decide) ?_
          cases h
          exact k2 _ rfl _ _ _ (lv_sub hl [1, 2, 0] rfl) hw
    · clear hw hl
      intro ls H locs hl hw
      (try dsimp only at hl hw ⊢)
      refine lv_aload_n hx hb dX8_factorWhole_218 rfl (lv_at hl 0 rfl) ?_
      refine m_get (k := 36) (C := RX8) (T := TX8) (N := 18) (ref := "LiftFactorsModel") (v := .ref (adr 42)) hx hb hi hts inX8_u hown hw (by decide) rfl 8 (by decide) q_1 rfl rfl dX8_factorWhole_219 ?_
      refine lv_bipush (v := Int32.ofInt (19)) hx hb dX8_factorWhole_222 rfl ?_
      replace h := bnd h
      obtain ⟨v43, e43, h⟩ := h
      refine o_iald hx hb hi hw e43 dX8_factorWhole_224 ?_
      replace h := bnd h
      obtain ⟨M45, j46, h⟩ := h
      have kj : ∀ (ls : Array Slot) (H : Heap) (locs : List Loc), lv_has ls 6 [] → wH G A s.heap s (LL adr) (wf G adr (tm M45)) H locs → W p l e { frames := 7, cells := 0, slots := 0, locals := 183 } s m args below meth c H locs 0 0 Q (F0 m 234 ls []) := by
        intro ls H locs hl hw
        cases h
        exact kr _ _ _ _ dX8_factorWhole_234 hw
      clear h
      replace h := j46
      clear j46
      replace h := bnd h
      obtain ⟨_, hg, h⟩ := h
      refine o_if_le (tgt := 234) hx hb hg dX8_factorWhole_225 (by decide) (fun hc => ?_) (fun hc => ?_)
      · replace h := ite_t hc h
        cases h
        exact kj _ _ _ (lv_sub hl [] rfl) hw
      · replace h := ite_f hc h
        refine lv_aload_n hx hb dX8_factorWhole_228 rfl (lv_at hl 0 rfl) ?_
        refine lv_bipush (v := Int32.ofInt (19)) hx hb dX8_factorWhole_229 rfl ?_
        replace h := bnd h
        obtain ⟨v44, e44, h⟩ := h
        refine m_callVv (k := 36) (As := [.int (Int32.ofInt (19))]) (rest := []) cx.fix hi hw (cc_X8_keep (l := l) (G := G) (sz := H.size) hi e44) (by decide) rfl rfl (w_cV 1 hts q_151 q_152 q_153 q_154 q_155 rfl rfl (by decide) (by decide)) hl.1 rfl (lv_room (Nat.le_of_ble_eq_true rfl)) dX8_factorWhole_231 (fun H locs hw => ?_)
        cases h
        exact kj _ _ _ (lv_sub hl [] rfl) hw
theorem cc_X8_factorWhole {l : Launch} {G : gG} {adr : Nat → Nat} {sz : Nat} (hi : adi adr) {n : Nat} {M M' : MI} (h : f_X8_factorWhole n M = some M') : mV l yX8_factorWhole cX8_factorWhole 6 none { frames := 7, cells := 0, slots := 0, locals := 183 } G adr [.ref (adr 36)] (tm M) sz (tm M') := by
  refine wEnter (by decide) (Nat.le_of_ble_eq_true rfl) ?_
  intro p e s m below meth c ls cx hinit hl hsz hw
  exact b_X8_factorWhole cx hi h (fun pc ls H locs hd hw => w_vret (post := fun (u : Mem) => u = tm M') (lf := fun u => (LL adr, wf G adr u)) cx.1 cx.2.1 cx.2.2.1 cx.2.2.2.2.2.2 (tm M') hw rfl hd) hl hw
def l_X8_before_43 (a0 : Int) (a1 : Int) (M : MI) : Int → Option (((Int) ⊕ (Unit)) ⊕ (Int)) := fun v4 =>
  Option.bind (gI v4 0) fun _ =>
  if v4 < 0 then
    some (.inl (.inr ()))
  else
    Option.bind (odJ M 41 (((24) * a0) + v4)) fun v5 =>
    Option.bind (odJ M 41 (((24) * a1) + v4)) fun v6 =>
    Option.bind (gJ v5 v6) fun _ =>
    if v5 = v6 then
      some (.inr (v4 + (-1)))
    else
      Option.bind (odJ M 41 (((24) * a0) + v4)) fun v7 =>
      Option.bind (odJ M 41 (((24) * a1) + v4)) fun v8 =>
      Option.bind (
        Option.bind (gJ v7 v8) fun _ =>
        if v8 ≤ v7 then
          some (0)
        else
          some (1)) fun v9 =>
      Option.bind (obz v9) fun v10 =>
      some (.inl (.inl v10))
def f_X8_before (n : Nat) (a0 : Int) (a1 : Int) (M : MI) : Option Int :=
  Option.bind (odI M 42 a0) fun v1 =>
  Option.bind (odI M 42 a1) fun v2 =>
  Option.bind (gI v1 v2) fun _ =>
  if v1 = v2 then
    Option.bind (odI M 42 a0) fun v3 =>
    Option.bind (lpF (l_X8_before_43 a0 a1 M) n v3) fun r => match r with
    | .inl o => some o
    | .inr () =>
      some (0)
  else
    Option.bind (odI M 42 a0) fun v14 =>
    Option.bind (odI M 42 a1) fun v15 =>
    Option.bind (
      Option.bind (gI v14 v15) fun _ =>
      if v15 ≤ v14 then
        some (0)
      else
        some (1)) fun v16 =>
    Option.bind (obz v16) fun v17 =>
    some v17
set_option maxRecDepth 100000 in
set_option maxHeartbeats 8000000 in
theorem b_X8_before {p : Program} {l : Launch} {e : Env} {s : State} {m : MethodId} {args : Array Value} {below : List Frame} {meth : Method} {c : Code} {Q : State → Prop} {G : gG} {A : Nat → Prop} {adr : Nat → Nat} (cx : cX p s m args meth c cX8_before (some .boolean) 4 yX8_before.cls) (hi : adi adr) {n : Nat} {a0 : Int} {a1 : Int} {M : MI} {r : Int} 
    (h : f_X8_before n a0 a1 M = some r)
    (kr : ∀ (pc : Nat) (ls : Array Slot) (H : Heap) (locs : List Loc), decode cX8_before pc = .ok (.ireturn, 1) → narrow .boolean (.int (Int32.ofInt r)) = .int (Int32.ofInt r) → wH G A s.heap s (LL adr) (wf G adr (tm M)) H locs → W p l e { frames := 0, cells := 0, slots := 0, locals := 0 } s m args below meth c H locs 0 0 Q (F0 m pc ls [.int (Int32.ofInt r)]))
    {ls : Array Slot} {H : Heap} {locs : List Loc} (hl : lv_has ls 4 [(0, .ref (adr 36)), (1, .int (Int32.ofInt a0)), (2, .int (Int32.ofInt a1))]) (hw : wH G A s.heap s (LL adr) (wf G adr (tm M)) H locs) : W p l e { frames := 0, cells := 0, slots := 0, locals := 0 } s m args below meth c H locs 0 0 Q (F0 m 0 ls []) := by
  obtain ⟨hx, hb, -, -, hown, hts, -⟩ := id cx
  have hown : s.vm.findClass RX8 = some m.cls := hown
  unfold f_X8_before at h
  refine lv_aload_n hx hb dX8_before_0 rfl (lv_at hl 0 rfl) ?_
  refine m_get (k := 36) (C := RX8) (T := TX8) (N := 18) (ref := "LiftFactorsModel") (v := .ref (adr 42)) hx hb hi hts inX8_u hown hw (by decide) rfl 8 (by decide) q_1 rfl rfl dX8_before_1 ?_
  refine lv_iload_n hx hb dX8_before_4 rfl (lv_at hl 1 rfl) ?_
  replace h := bnd h
  obtain ⟨v1, e1, h⟩ := h
  refine o_iald hx hb hi hw e1 dX8_before_5 ?_
  refine lv_aload_n hx hb dX8_before_6 rfl (lv_at hl 0 rfl) ?_
  refine m_get (k := 36) (C := RX8) (T := TX8) (N := 18) (ref := "LiftFactorsModel") (v := .ref (adr 42)) hx hb hi hts inX8_u hown hw (by decide) rfl 8 (by decide) q_1 rfl rfl dX8_before_7 ?_
  refine lv_iload_n hx hb dX8_before_10 rfl (lv_at hl 2 rfl) ?_
  replace h := bnd h
  obtain ⟨v2, e2, h⟩ := h
  refine o_iald hx hb hi hw e2 dX8_before_11 ?_
  replace h := bnd h
  obtain ⟨_, hg, h⟩ := h
  refine o_icmp_eq (tgt := 36) hx hb hg dX8_before_12 (by decide) (fun hc => ?_) (fun hc => ?_)
  · replace h := ite_t hc h
    refine lv_aload_n hx hb dX8_before_36 rfl (lv_at hl 0 rfl) ?_
    refine m_get (k := 36) (C := RX8) (T := TX8) (N := 18) (ref := "LiftFactorsModel") (v := .ref (adr 42)) hx hb hi hts inX8_u hown hw (by decide) rfl 8 (by decide) q_1 rfl rfl dX8_before_37 ?_
    refine lv_iload_n hx hb dX8_before_40 rfl (lv_at hl 1 rfl) ?_
    replace h := bnd h
    obtain ⟨v3, e3, h⟩ := h
    refine o_iald hx hb hi hw e3 dX8_before_41 ?_
    refine lv_istore_n (lv' := [(3, .int (Int32.ofInt v3)), (0, .ref (adr 36)), (1, .int (Int32.ofInt a0)), (2, .int (Int32.ofInt a1))]) hx hb dX8_before_42 rfl hl (by decide) rfl (fun ls hl => ?_)
    replace h := bnd h
    obtain ⟨o13, j12, h⟩ := h
    refine lp_W (Wst := fun (st : Int) => ∀ (ls : Array Slot) (H : Heap) (locs : List Loc), lv_has ls 4 [(0, .ref (adr 36)), (1, .int (Int32.ofInt a0)), (2, .int (Int32.ofInt a1)), (3, .int (Int32.ofInt st))] → wH G A s.heap s (LL adr) (wf G adr (tm M)) H locs → W p l e { frames := 0, cells := 0, slots := 0, locals := 0 } s m args below meth c H locs 0 0 Q (F0 m 43 ls [])) (fin := fun (r : (Int) ⊕ (Unit)) => match r with
      | .inl o => ∀ (pc : Nat) (ls : Array Slot) (H : Heap) (locs : List Loc), decode cX8_before pc = .ok (.ireturn, 1) → narrow .boolean (.int (Int32.ofInt o)) = .int (Int32.ofInt o) → wH G A s.heap s (LL adr) (wf G adr (tm M)) H locs → W p l e { frames := 0, cells := 0, slots := 0, locals := 0 } s m args below meth c H locs 0 0 Q (F0 m pc ls [.int (Int32.ofInt o)])
      | .inr q => ∀ (ls : Array Slot) (H : Heap) (locs : List Loc), lv_has ls 4 [] → wH G A s.heap s (LL adr) (wf G adr (tm M)) H locs → W p l e { frames := 0, cells := 0, slots := 0, locals := 0 } s m args below meth c H locs 0 0 Q (F0 m 111 ls [])) ?_ n _ _ j12 ?_ _ _ _ (lv_sub hl [1, 2, 3, 0] rfl) hw
    · clear h j12 hw hl
      intro v4 x h k1 k2 ls H locs hl hw
      (try dsimp only at k2 hl hw ⊢)
      unfold l_X8_before_43 at h
      (try dsimp only at h)
      refine lv_iload_n hx hb dX8_before_43 rfl (lv_at hl 3 rfl) ?_
      replace h := bnd h
      obtain ⟨_, hg, h⟩ := h
      refine o_if_lt (tgt := 111) hx hb hg dX8_before_44 (by decide) (fun hc => ?_) (fun hc => ?_)
      · replace h := ite_t hc h
        cases h
        exact k1 _ rfl _ _ _ (lv_sub hl [] rfl) hw
      · replace h := ite_f hc h
        refine lv_aload_n hx hb dX8_before_47 rfl (lv_at hl 0 rfl) ?_
        refine m_get (k := 36) (C := RX8) (T := TX8) (N := 18) (ref := "LiftFactorsModel") (v := .ref (adr 41)) hx hb hi hts inX8_u hown hw (by decide) rfl 7 (by decide) q_0 rfl rfl dX8_before_48 ?_
        refine lv_bipush (v := Int32.ofInt (24)) hx hb dX8_before_51 rfl ?_
        refine lv_iload_n hx hb dX8_before_53 rfl (lv_at hl 1 rfl) ?_
        refine o_imul hx hb dX8_before_54 ?_
        refine lv_iload_n hx hb dX8_before_55 rfl (lv_at hl 3 rfl) ?_
        refine o_iadd hx hb dX8_before_56 ?_
        replace h := bnd h
        obtain ⟨v5, e5, h⟩ := h
        refine o_lald hx hb hi hw e5 dX8_before_57 ?_
        refine lv_aload_n hx hb dX8_before_58 rfl (lv_at hl 0 rfl) ?_
        refine m_get (k := 36) (C := RX8) (T := TX8) (N := 18) (ref := "LiftFactorsModel") (v := .ref (adr 41)) hx hb hi hts inX8_u hown hw (by decide) rfl 7 (by decide) q_0 rfl rfl dX8_before_59 ?_
        refine lv_bipush (v := Int32.ofInt (24)) hx hb dX8_before_62 rfl ?_
        refine lv_iload_n hx hb dX8_before_64 rfl (lv_at hl 2 rfl) ?_
        refine o_imul hx hb dX8_before_65 ?_
        refine lv_iload_n hx hb dX8_before_66 rfl (lv_at hl 3 rfl) ?_
        refine o_iadd hx hb dX8_before_67 ?_
        replace h := bnd h
        obtain ⟨v6, e6, h⟩ := h
        refine o_lald hx hb hi hw e6 dX8_before_68 ?_
        replace h := bnd h
        obtain ⟨_, hg, h⟩ := h
        refine o_lcmp_eq (tgt := 105) hx hb hg dX8_before_69 dX8_before_70 (by decide) (fun hc => ?_) (fun hc => ?_)
        · replace h := ite_t hc h
          refine lv_iinc (v := Int32.ofInt (v4 + (-1))) (lv' := [(3, .int (Int32.ofInt (v4 + (-1)))), (0, .ref (adr 36)), (1, .int (Int32.ofInt a0)), (2, .int (Int32.ofInt a1))]) hx hb dX8_before_105 hl (k := 3) rfl (inc_o _ _) (by decide) rfl (fun ls hl => ?_)
          refine lv_goto (tgt := 43) hx hb dX8_before_108 (by decide) ?_
          cases h
          exact k2 _ rfl _ _ _ (lv_sub hl [1, 2, 3, 0] rfl) hw
        · replace h := ite_f hc h
          refine lv_aload_n hx hb dX8_before_73 rfl (lv_at hl 0 rfl) ?_
          refine m_get (k := 36) (C := RX8) (T := TX8) (N := 18) (ref := "LiftFactorsModel") (v := .ref (adr 41)) hx hb hi hts inX8_u hown hw (by decide) rfl 7 (by decide) q_0 rfl rfl dX8_before_74 ?_
          refine lv_bipush (v := Int32.ofInt (24)) hx hb dX8_before_77 rfl ?_
          refine lv_iload_n hx hb dX8_before_79 rfl (lv_at hl 1 rfl) ?_
          refine o_imul hx hb dX8_before_80 ?_
          refine lv_iload_n hx hb dX8_before_81 rfl (lv_at hl 3 rfl) ?_
          refine o_iadd hx hb dX8_before_82 ?_
          replace h := bnd h
          obtain ⟨v7, e7, h⟩ := h
          refine o_lald hx hb hi hw e7 dX8_before_83 ?_
          refine lv_aload_n hx hb dX8_before_84 rfl (lv_at hl 0 rfl) ?_
          refine m_get (k := 36) (C := RX8) (T := TX8) (N := 18) (ref := "LiftFactorsModel") (v := .ref (adr 41)) hx hb hi hts inX8_u hown hw (by decide) rfl 7 (by decide) q_0 rfl rfl dX8_before_85 ?_
          refine lv_bipush (v := Int32.ofInt (24)) hx hb dX8_before_88 rfl ?_
          refine lv_iload_n hx hb dX8_before_90 rfl (lv_at hl 2 rfl) ?_
          refine o_imul hx hb dX8_before_91 ?_
          refine lv_iload_n hx hb dX8_before_92 rfl (lv_at hl 3 rfl) ?_
          refine o_iadd hx hb dX8_before_93 ?_
          replace h := bnd h
          obtain ⟨v8, e8, h⟩ := h
          refine o_lald hx hb hi hw e8 dX8_before_94 ?_
          replace h := bnd h
          obtain ⟨v9, j11, h⟩ := h
          have kj : ∀ (ls : Array Slot) (H : Heap) (locs : List Loc), lv_has ls 4 [] → wH G A s.heap s (LL adr) (wf G adr (tm M)) H locs → W p l e { frames := 0, cells := 0, slots := 0, locals := 0 } s m args below meth c H locs 0 0 Q (F0 m 104 ls [.int (Int32.ofInt v9)]) := by
            intro ls H locs hl hw
            replace h := bnd h
            obtain ⟨v10, eZ, h⟩ := h
            obtain ⟨rfl, eZ⟩ := obz_ok eZ
            cases h
            exact k1 _ rfl _ _ _ _ dX8_before_104 eZ hw
          clear h
          replace h := j11
          clear j11
          replace h := bnd h
          obtain ⟨_, hg, h⟩ := h
          refine o_lcmp_ge (tgt := 103) hx hb hg dX8_before_95 dX8_before_96 (by decide) (fun hc => ?_) (fun hc => ?_)
          · replace h := ite_t hc h
            refine lv_iconst (v := Int32.ofInt (0)) hx hb dX8_before_103 rfl ?_
            cases h
            exact kj _ _ _ (lv_sub hl [] rfl) hw
          · replace h := ite_f hc h
            refine lv_iconst (v := Int32.ofInt (1)) hx hb dX8_before_99 rfl ?_
            refine lv_goto (tgt := 104) hx hb dX8_before_100 (by decide) ?_
            cases h
            exact kj _ _ _ (lv_sub hl [] rfl) hw
    · clear hw hl j12
      rcases o13 with o9 | _
      · cases h
        exact kr
      · intro ls H locs hl hw
        (try dsimp only at h hl hw ⊢)
        refine lv_iconst (v := Int32.ofInt (0)) hx hb dX8_before_111 rfl ?_
        cases h
        exact kr _ _ _ _ dX8_before_112 nb0 hw
  · replace h := ite_f hc h
    refine lv_aload_n hx hb dX8_before_15 rfl (lv_at hl 0 rfl) ?_
    refine m_get (k := 36) (C := RX8) (T := TX8) (N := 18) (ref := "LiftFactorsModel") (v := .ref (adr 42)) hx hb hi hts inX8_u hown hw (by decide) rfl 8 (by decide) q_1 rfl rfl dX8_before_16 ?_
    refine lv_iload_n hx hb dX8_before_19 rfl (lv_at hl 1 rfl) ?_
    replace h := bnd h
    obtain ⟨v14, e14, h⟩ := h
    refine o_iald hx hb hi hw e14 dX8_before_20 ?_
    refine lv_aload_n hx hb dX8_before_21 rfl (lv_at hl 0 rfl) ?_
    refine m_get (k := 36) (C := RX8) (T := TX8) (N := 18) (ref := "LiftFactorsModel") (v := .ref (adr 42)) hx hb hi hts inX8_u hown hw (by decide) rfl 8 (by decide) q_1 rfl rfl dX8_before_22 ?_
    refine lv_iload_n hx hb dX8_before_25 rfl (lv_at hl 2 rfl) ?_
    replace h := bnd h
    obtain ⟨v15, e15, h⟩ := h
    refine o_iald hx hb hi hw e15 dX8_before_26 ?_
    replace h := bnd h
    obtain ⟨v16, j18, h⟩ := h
    have kj : ∀ (ls : Array Slot) (H : Heap) (locs : List Loc), lv_has ls 4 [] → wH G A s.heap s (LL adr) (wf G adr (tm M)) H locs → W p l e { frames := 0, cells := 0, slots := 0, locals := 0 } s m args below meth c H locs 0 0 Q (F0 m 35 ls [.int (Int32.ofInt v16)]) := by
      intro ls H locs hl hw
      replace h := bnd h
      obtain ⟨v17, eZ, h⟩ := h
      obtain ⟨rfl, eZ⟩ := obz_ok eZ
      cases h
      exact kr _ _ _ _ dX8_before_35 eZ hw
    clear h
    replace h := j18
    clear j18
    replace h := bnd h
    obtain ⟨_, hg, h⟩ := h
    refine o_icmp_ge (tgt := 34) hx hb hg dX8_before_27 (by decide) (fun hc => ?_) (fun hc => ?_)
    · replace h := ite_t hc h
      refine lv_iconst (v := Int32.ofInt (0)) hx hb dX8_before_34 rfl ?_
      cases h
      exact kj _ _ _ (lv_sub hl [] rfl) hw
    · replace h := ite_f hc h
      refine lv_iconst (v := Int32.ofInt (1)) hx hb dX8_before_30 rfl ?_
      refine lv_goto (tgt := 35) hx hb dX8_before_31 (by decide) ?_
      cases h
      exact kj _ _ _ (lv_sub hl [] rfl) hw
theorem cc_X8_before {l : Launch} {G : gG} {adr : Nat → Nat} {sz : Nat} (hi : adi adr) {n : Nat} {a0 : Int} {a1 : Int} {M : MI} {r : Int} (h : f_X8_before n a0 a1 M = some r) : mI l yX8_before cX8_before 4 (some .boolean) { frames := 0, cells := 0, slots := 0, locals := 0 } G adr [.ref (adr 36), .int (Int32.ofInt a0), .int (Int32.ofInt a1)] (tm M) sz (Int32.ofInt r) (tm M) := by
  refine wEnter (by decide) (Nat.le_of_ble_eq_true rfl) ?_
  intro p e s m below meth c ls cx hinit hl hsz hw
  exact b_X8_before cx hi h (fun pc ls H locs hd hz hw => w_zret (post := fun (r9 : Int32) (u : Mem) => r9 = Int32.ofInt r ∧ u = tm M) (lf := fun u => (LL adr, wf G adr u)) cx.1 cx.2.1 cx.2.2.1 cx.2.2.2.2.2.2 hz (tm M) hw ⟨rfl, rfl⟩ hd) hl hw
theorem q_156 : Cond.methodLink RX8 173 yX8_before ∈ uU := uU_in (by decide +kernel) (by decide +kernel)
theorem q_157 : Cond.instanceMethod yX8_before ∈ uU := uU_in (by decide +kernel) (by decide +kernel)
theorem q_158 : Cond.selects yX8_before.cls yX8_before yX8_before ∈ uU := uU_in (by decide +kernel) (by decide +kernel)
theorem q_159 : Cond.initialized yX8_before.cls ∈ uU := uU_in (by decide +kernel) (by decide +kernel)
theorem q_160 : Cond.code yX8_before cX8_before 4 (some .boolean) ∈ uU := uU_in (by decide +kernel) (by decide +kernel)
def l_X8_sort_12 (n : Nat) : MI × Int → Option ((MI) ⊕ (MI × Int)) := fun (M3, v4) =>
  Option.bind (gI v4 0) fun _ =>
  if v4 ≤ 0 then
    some (.inl M3)
  else
    Option.bind (f_X8_before n ((40) + v4) (((40) + v4) - (1)) M3) fun v5 =>
    Option.bind (gI v5 0) fun _ =>
    if v5 = 0 then
      some (.inl M3)
    else
      Option.bind (f_X8_copy n ((40) + v4) (11) M3) fun v6 =>
      Option.bind (f_X8_copy n (((40) + v4) - (1)) ((40) + v4) v6) fun v7 =>
      Option.bind (f_X8_copy n (11) (((40) + v4) - (1)) v7) fun v8 =>
      some (.inr (v8, v4 + (-1)))
def l_X8_sort_2 (n : Nat) : MI × Int → Option ((MI) ⊕ (MI × Int)) := fun (M1, v2) =>
  Option.bind (gI v2 (M1.2 36 11)) fun _ =>
  if (M1.2 36 11) ≤ v2 then
    some (.inl M1)
  else
    Option.bind (lpF (l_X8_sort_12 n) n (M1, v2)) fun M10 =>
    some (.inr (M10, v2 + 1))
def f_X8_sort (n : Nat) (M : MI) : Option MI :=
  Option.bind (lpF (l_X8_sort_2 n) n (M, (1))) fun M12 =>
  some M12
set_option maxRecDepth 100000 in
set_option maxHeartbeats 8000000 in
theorem b_X8_sort {p : Program} {l : Launch} {e : Env} {s : State} {m : MethodId} {args : Array Value} {below : List Frame} {meth : Method} {c : Code} {Q : State → Prop} {G : gG} {A : Nat → Prop} {adr : Nat → Nat} (cx : cX p s m args meth c cX8_sort none 3 yX8_sort.cls) (hi : adi adr) {n : Nat} {M M' : MI} 
    (h : f_X8_sort n M = some M')
    (kr : ∀ (pc : Nat) (ls : Array Slot) (H : Heap) (locs : List Loc), decode cX8_sort pc = .ok (.return_, 1) → wH G A s.heap s (LL adr) (wf G adr (tm M')) H locs → W p l e { frames := 1, cells := 0, slots := 0, locals := 23 } s m args below meth c H locs 0 0 Q (F0 m pc ls []))
    {ls : Array Slot} {H : Heap} {locs : List Loc} (hl : lv_has ls 3 [(0, .ref (adr 36))]) (hw : wH G A s.heap s (LL adr) (wf G adr (tm M)) H locs) : W p l e { frames := 1, cells := 0, slots := 0, locals := 23 } s m args below meth c H locs 0 0 Q (F0 m 0 ls []) := by
  obtain ⟨hx, hb, -, -, hown, hts, -⟩ := id cx
  have hown : s.vm.findClass RX8 = some m.cls := hown
  unfold f_X8_sort at h
  refine lv_iconst (v := Int32.ofInt (1)) hx hb dX8_sort_0 rfl ?_
  refine lv_istore_n (lv' := [(1, .int (Int32.ofInt (1))), (0, .ref (adr 36))]) hx hb dX8_sort_1 rfl hl (by decide) rfl (fun ls hl => ?_)
  replace h := bnd h
  obtain ⟨M12, j11, h⟩ := h
  refine lp_W (Wst := fun (st : MI × Int) => ∀ (ls : Array Slot) (H : Heap) (locs : List Loc), lv_has ls 3 [(0, .ref (adr 36)), (1, .int (Int32.ofInt st.2))] → wH G A s.heap s (LL adr) (wf G adr (tm st.1)) H locs → W p l e { frames := 1, cells := 0, slots := 0, locals := 23 } s m args below meth c H locs 0 0 Q (F0 m 2 ls [])) (fin := fun (r : MI) => ∀ (ls : Array Slot) (H : Heap) (locs : List Loc), lv_has ls 3 [] → wH G A s.heap s (LL adr) (wf G adr (tm r)) H locs → W p l e { frames := 1, cells := 0, slots := 0, locals := 23 } s m args below meth c H locs 0 0 Q (F0 m 81 ls [])) ?_ n _ _ j11 ?_ _ _ _ (lv_sub hl [1, 0] rfl) hw
  · clear h j11 hw hl
    intro ⟨M1, v2⟩ x h k1 k2 ls H locs hl hw
    (try dsimp only at k1 k2 hl hw ⊢)
    unfold l_X8_sort_2 at h
    (try dsimp only at h)
    refine lv_iload_n hx hb dX8_sort_2 rfl (lv_at hl 1 rfl) ?_
    refine lv_aload_n hx hb dX8_sort_3 rfl (lv_at hl 0 rfl) ?_
    refine m_get (k := 36) (C := RX8) (T := TX8) (N := 18) (ref := "LiftFactorsModel") (v := .int (Int32.ofInt (M1.2 36 11))) hx hb hi hts inX8_u hown hw (by decide) rfl 11 (by decide) q_131 rfl rfl dX8_sort_4 ?_
    replace h := bnd h
    obtain ⟨_, hg, h⟩ := h
    refine o_icmp_ge (tgt := 81) hx hb hg dX8_sort_7 (by decide) (fun hc => ?_) (fun hc => ?_)
    · replace h := ite_t hc h
      cases h
      exact k1 _ rfl _ _ _ (lv_sub hl [] rfl) hw
    · replace h := ite_f hc h
      refine lv_iload_n hx hb dX8_sort_10 rfl (lv_at hl 1 rfl) ?_
      refine lv_istore_n (lv' := [(2, .int (Int32.ofInt v2)), (0, .ref (adr 36)), (1, .int (Int32.ofInt v2))]) hx hb dX8_sort_11 rfl hl (by decide) rfl (fun ls hl => ?_)
      replace h := bnd h
      obtain ⟨M10, j9, h⟩ := h
      refine lp_W (Wst := fun (st : MI × Int) => ∀ (ls : Array Slot) (H : Heap) (locs : List Loc), lv_has ls 3 [(0, .ref (adr 36)), (1, .int (Int32.ofInt v2)), (2, .int (Int32.ofInt st.2))] → wH G A s.heap s (LL adr) (wf G adr (tm st.1)) H locs → W p l e { frames := 1, cells := 0, slots := 0, locals := 23 } s m args below meth c H locs 0 0 Q (F0 m 12 ls [])) (fin := fun (r : MI) => ∀ (ls : Array Slot) (H : Heap) (locs : List Loc), lv_has ls 3 [(0, .ref (adr 36)), (1, .int (Int32.ofInt v2))] → wH G A s.heap s (LL adr) (wf G adr (tm r)) H locs → W p l e { frames := 1, cells := 0, slots := 0, locals := 23 } s m args below meth c H locs 0 0 Q (F0 m 75 ls [])) ?_ n _ _ j9 ?_ _ _ _ (lv_sub hl [1, 2, 0] rfl) hw
      · clear h j9 hw hl
        intro ⟨M3, v4⟩ x h k1 k2 ls H locs hl hw
        (try dsimp only at k1 k2 hl hw ⊢)
        unfold l_X8_sort_12 at h
        (try dsimp only at h)
        refine lv_iload_n hx hb dX8_sort_12 rfl (lv_at hl 2 rfl) ?_
        replace h := bnd h
        obtain ⟨_, hg, h⟩ := h
        refine o_if_le (tgt := 75) hx hb hg dX8_sort_13 (by decide) (fun hc => ?_) (fun hc => ?_)
        · replace h := ite_t hc h
          cases h
          exact k1 _ rfl _ _ _ (lv_sub hl [0, 1] rfl) hw
        · replace h := ite_f hc h
          refine lv_aload_n hx hb dX8_sort_16 rfl (lv_at hl 0 rfl) ?_
          refine lv_bipush (v := Int32.ofInt (40)) hx hb dX8_sort_17 rfl ?_
          refine lv_iload_n hx hb dX8_sort_19 rfl (lv_at hl 2 rfl) ?_
          refine o_iadd hx hb dX8_sort_20 ?_
          refine lv_bipush (v := Int32.ofInt (40)) hx hb dX8_sort_21 rfl ?_
          refine lv_iload_n hx hb dX8_sort_23 rfl (lv_at hl 2 rfl) ?_
          refine o_iadd hx hb dX8_sort_24 ?_
          refine lv_iconst (v := Int32.ofInt (1)) hx hb dX8_sort_25 rfl ?_
          refine o_isub hx hb dX8_sort_26 ?_
          replace h := bnd h
          obtain ⟨v5, e5, h⟩ := h
          refine m_callVi (k := 36) (As := [.int (Int32.ofInt ((40) + v4)), .int (Int32.ofInt (((40) + v4) - (1)))]) (rest := []) cx.fix hi hw (cc_X8_before (l := l) (G := G) (sz := H.size) hi e5) (by decide) rfl rfl (w_cV 2 hts q_156 q_157 q_158 q_159 q_160 rfl rfl (by decide) (by decide)) hl.1 rfl (lv_room (Nat.le_of_ble_eq_true rfl)) dX8_sort_27 (fun H locs hw => ?_)
          replace h := bnd h
          obtain ⟨_, hg, h⟩ := h
          refine o_if_eq (tgt := 75) hx hb hg dX8_sort_30 (by decide) (fun hc => ?_) (fun hc => ?_)
          · replace h := ite_t hc h
            cases h
            exact k1 _ rfl _ _ _ (lv_sub hl [0, 1] rfl) hw
          · replace h := ite_f hc h
            refine lv_aload_n hx hb dX8_sort_33 rfl (lv_at hl 0 rfl) ?_
            refine lv_bipush (v := Int32.ofInt (40)) hx hb dX8_sort_34 rfl ?_
            refine lv_iload_n hx hb dX8_sort_36 rfl (lv_at hl 2 rfl) ?_
            refine o_iadd hx hb dX8_sort_37 ?_
            refine lv_bipush (v := Int32.ofInt (11)) hx hb dX8_sort_38 rfl ?_
            replace h := bnd h
            obtain ⟨v6, e6, h⟩ := h
            refine m_callVv (k := 36) (As := [.int (Int32.ofInt ((40) + v4)), .int (Int32.ofInt (11))]) (rest := []) cx.fix hi hw (cc_X8_copy (l := l) (G := G) (sz := H.size) hi e6) (by decide) rfl rfl (w_cV 2 hts q_24 q_25 q_26 q_27 q_28 rfl rfl (by decide) (by decide)) hl.1 rfl (lv_room (Nat.le_of_ble_eq_true rfl)) dX8_sort_40 (fun H locs hw => ?_)
            refine lv_aload_n hx hb dX8_sort_43 rfl (lv_at hl 0 rfl) ?_
            refine lv_bipush (v := Int32.ofInt (40)) hx hb dX8_sort_44 rfl ?_
            refine lv_iload_n hx hb dX8_sort_46 rfl (lv_at hl 2 rfl) ?_
            refine o_iadd hx hb dX8_sort_47 ?_
            refine lv_iconst (v := Int32.ofInt (1)) hx hb dX8_sort_48 rfl ?_
            refine o_isub hx hb dX8_sort_49 ?_
            refine lv_bipush (v := Int32.ofInt (40)) hx hb dX8_sort_50 rfl ?_
            refine lv_iload_n hx hb dX8_sort_52 rfl (lv_at hl 2 rfl) ?_
            refine o_iadd hx hb dX8_sort_53 ?_
            replace h := bnd h
            obtain ⟨v7, e7, h⟩ := h
            refine m_callVv (k := 36) (As := [.int (Int32.ofInt (((40) + v4) - (1))), .int (Int32.ofInt ((40) + v4))]) (rest := []) cx.fix hi hw (cc_X8_copy (l := l) (G := G) (sz := H.size) hi e7) (by decide) rfl rfl (w_cV 2 hts q_24 q_25 q_26 q_27 q_28 rfl rfl (by decide) (by decide)) hl.1 rfl (lv_room (Nat.le_of_ble_eq_true rfl)) dX8_sort_54 (fun H locs hw => ?_)
            refine lv_aload_n hx hb dX8_sort_57 rfl (lv_at hl 0 rfl) ?_
            refine lv_bipush (v := Int32.ofInt (11)) hx hb dX8_sort_58 rfl ?_
            refine lv_bipush (v := Int32.ofInt (40)) hx hb dX8_sort_60 rfl ?_
            refine lv_iload_n hx hb dX8_sort_62 rfl (lv_at hl 2 rfl) ?_
            refine o_iadd hx hb dX8_sort_63 ?_
            refine lv_iconst (v := Int32.ofInt (1)) hx hb dX8_sort_64 rfl ?_
            refine o_isub hx hb dX8_sort_65 ?_
            replace h := bnd h
            obtain ⟨v8, e8, h⟩ := h
            refine m_callVv (k := 36) (As := [.int (Int32.ofInt (11)), .int (Int32.ofInt (((40) + v4) - (1)))]) (rest := []) cx.fix hi hw (cc_X8_copy (l := l) (G := G) (sz := H.size) hi e8) (by decide) rfl rfl (w_cV 2 hts q_24 q_25 q_26 q_27 q_28 rfl rfl (by decide) (by decide)) hl.1 rfl (lv_room (Nat.le_of_ble_eq_true rfl)) dX8_sort_66 (fun H locs hw => ?_)
            refine lv_iinc (v := Int32.ofInt (v4 + (-1))) (lv' := [(2, .int (Int32.ofInt (v4 + (-1)))), (0, .ref (adr 36)), (1, .int (Int32.ofInt v2))]) hx hb dX8_sort_69 hl (k := 2) rfl (inc_o _ _) (by decide) rfl (fun ls hl => ?_)
            refine lv_goto (tgt := 12) hx hb dX8_sort_72 (by decide) ?_
            cases h
            exact k2 _ rfl _ _ _ (lv_sub hl [1, 2, 0] rfl) hw
      · clear hw hl
        intro ls H locs hl hw
        (try dsimp only at hl hw ⊢)
        refine lv_iinc (v := Int32.ofInt (v2 + 1)) (lv' := [(1, .int (Int32.ofInt (v2 + 1))), (0, .ref (adr 36))]) hx hb dX8_sort_75 hl (k := 1) rfl (inc_o _ _) (by decide) rfl (fun ls hl => ?_)
        refine lv_goto (tgt := 2) hx hb dX8_sort_78 (by decide) ?_
        cases h
        exact k2 _ rfl _ _ _ (lv_sub hl [1, 0] rfl) hw
  · clear hw hl
    intro ls H locs hl hw
    (try dsimp only at hl hw ⊢)
    cases h
    exact kr _ _ _ _ dX8_sort_81 hw
theorem cc_X8_sort {l : Launch} {G : gG} {adr : Nat → Nat} {sz : Nat} (hi : adi adr) {n : Nat} {M M' : MI} (h : f_X8_sort n M = some M') : mV l yX8_sort cX8_sort 3 none { frames := 1, cells := 0, slots := 0, locals := 23 } G adr [.ref (adr 36)] (tm M) sz (tm M') := by
  refine wEnter (by decide) (Nat.le_of_ble_eq_true rfl) ?_
  intro p e s m below meth c ls cx hinit hl hsz hw
  exact b_X8_sort cx hi h (fun pc ls H locs hd hw => w_vret (post := fun (u : Mem) => u = tm M') (lf := fun u => (LL adr, wf G adr u)) cx.1 cx.2.1 cx.2.2.1 cx.2.2.2.2.2.2 (tm M') hw rfl hd) hl hw
