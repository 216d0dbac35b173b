theorem q_161 : Cond.methodLink RX8 177 yX8_commonWhole ∈ uU := uU_in (by decide +kernel) (by decide +kernel)
theorem q_162 : Cond.instanceMethod yX8_commonWhole ∈ uU := uU_in (by decide +kernel) (by decide +kernel)
theorem q_163 : Cond.selects yX8_commonWhole.cls yX8_commonWhole yX8_commonWhole ∈ uU := uU_in (by decide +kernel) (by decide +kernel)
theorem q_164 : Cond.initialized yX8_commonWhole.cls ∈ uU := uU_in (by decide +kernel) (by decide +kernel)
theorem q_165 : Cond.code yX8_commonWhole cX8_commonWhole 8 none ∈ uU := uU_in (by decide +kernel) (by decide +kernel)
def f_X8_squareFreePart (n : Nat) (M : MI) : Option MI :=
  Option.bind (f_X8_derive n (0) (2) M) fun v1 =>
  Option.bind (f_X8_commonWhole n (0) (2) (11) v1) fun v2 =>
  Option.bind (f_X8_divides n (11) (0) (20000000) v2) fun (v3, M4) =>
  Option.bind (f_X8_copy n (3) (1) M4) fun v5 =>
  Option.bind (f_X8_primitive n (1) v5) fun (v6, M7) =>
  some M7
set_option maxRecDepth 100000 in
set_option maxHeartbeats 8000000 in
theorem b_X8_squareFreePart {p : Program} {l : Launch} {e : Env} {s : State} {m : MethodId} {args : Array Value} {below : List Frame} {meth : Method} {c : Code} {Q : State → Prop} {G : gG} {A : Nat → Prop} {adr : Nat → Nat} (cx : cX p s m args meth c cX8_squareFreePart none 1 yX8_squareFreePart.cls) (hi : adi adr) {n : Nat} {M M' : MI} 
    (h : f_X8_squareFreePart n M = some M')
    (kr : ∀ (pc : Nat) (ls : Array Slot) (H : Heap) (locs : List Loc), decode cX8_squareFreePart pc = .ok (.return_, 1) → wH G A s.heap s (LL adr) (wf G adr (tm M')) H locs → W p l e { frames := 5, cells := 0, slots := 0, locals := 133 } s m args below meth c H locs 0 0 Q (F0 m pc ls []))
    {ls : Array Slot} {H : Heap} {locs : List Loc} (hl : lv_has ls 1 [(0, .ref (adr 36))]) (hw : wH G A s.heap s (LL adr) (wf G adr (tm M)) H locs) : W p l e { frames := 5, cells := 0, slots := 0, locals := 133 } s m args below meth c H locs 0 0 Q (F0 m 0 ls []) := by
  obtain ⟨hx, hb, -, -, hown, hts, -⟩ := id cx
  have hown : s.vm.findClass RX8 = some m.cls := hown
  unfold f_X8_squareFreePart at h
  refine lv_aload_n hx hb dX8_squareFreePart_0 rfl (lv_at hl 0 rfl) ?_
  refine lv_iconst (v := Int32.ofInt (0)) hx hb dX8_squareFreePart_1 rfl ?_
  refine lv_iconst (v := Int32.ofInt (2)) hx hb dX8_squareFreePart_2 rfl ?_
  replace h := bnd h
  obtain ⟨v1, e1, h⟩ := h
  refine m_callVv (k := 36) (As := [.int (Int32.ofInt (0)), .int (Int32.ofInt (2))]) (rest := []) cx.fix hi hw (cc_X8_derive (l := l) (G := G) (sz := H.size) hi e1) (by decide) rfl rfl (w_cV 2 hts q_132 q_133 q_134 q_135 q_136 rfl rfl (by decide) (by decide)) hl.1 rfl (lv_room (Nat.le_of_ble_eq_true rfl)) dX8_squareFreePart_3 (fun H locs hw => ?_)
  refine lv_aload_n hx hb dX8_squareFreePart_6 rfl (lv_at hl 0 rfl) ?_
  refine lv_iconst (v := Int32.ofInt (0)) hx hb dX8_squareFreePart_7 rfl ?_
  refine lv_iconst (v := Int32.ofInt (2)) hx hb dX8_squareFreePart_8 rfl ?_
  refine lv_bipush (v := Int32.ofInt (11)) hx hb dX8_squareFreePart_9 rfl ?_
  replace h := bnd h
  obtain ⟨v2, e2, h⟩ := h
  refine m_callVv (k := 36) (As := [.int (Int32.ofInt (0)), .int (Int32.ofInt (2)), .int (Int32.ofInt (11))]) (rest := []) cx.fix hi hw (cc_X8_commonWhole (l := l) (G := G) (sz := H.size) hi e2) (by decide) rfl rfl (w_cV 3 hts q_161 q_162 q_163 q_164 q_165 rfl rfl (by decide) (by decide)) hl.1 rfl (lv_room (Nat.le_of_ble_eq_true rfl)) dX8_squareFreePart_11 (fun H locs hw => ?_)
  refine lv_aload_n hx hb dX8_squareFreePart_14 rfl (lv_at hl 0 rfl) ?_
  refine lv_bipush (v := Int32.ofInt (11)) hx hb dX8_squareFreePart_15 rfl ?_
  refine lv_iconst (v := Int32.ofInt (0)) hx hb dX8_squareFreePart_17 rfl ?_
  refine lv_ldc2 (v := Int64.ofInt (20000000)) hx hb hown (hts _ q_23) dX8_squareFreePart_18 ?_
  replace h := bnd h
  obtain ⟨⟨v3, M4⟩, e3, h⟩ := h
  refine m_callVi (k := 36) (As := [.int (Int32.ofInt (11)), .int (Int32.ofInt (0)), .long (Int64.ofInt (20000000))]) (rest := []) cx.fix hi hw (cc_X8_divides (l := l) (G := G) (sz := H.size) hi e3) (by decide) rfl rfl (w_cV 3 hts q_90 q_91 q_92 q_93 q_94 rfl rfl (by decide) (by decide)) hl.1 rfl (lv_room (Nat.le_of_ble_eq_true rfl)) dX8_squareFreePart_21 (fun H locs hw => ?_)
  refine lv_pop hx hb dX8_squareFreePart_24 rfl ?_
  refine lv_aload_n hx hb dX8_squareFreePart_25 rfl (lv_at hl 0 rfl) ?_
  refine lv_iconst (v := Int32.ofInt (3)) hx hb dX8_squareFreePart_26 rfl ?_
  refine lv_iconst (v := Int32.ofInt (1)) hx hb dX8_squareFreePart_27 rfl ?_
  replace h := bnd h
  obtain ⟨v5, e5, h⟩ := h
  refine m_callVv (k := 36) (As := [.int (Int32.ofInt (3)), .int (Int32.ofInt (1))]) (rest := []) cx.fix hi hw (cc_X8_copy (l := l) (G := G) (sz := H.size) hi e5) (by decide) rfl rfl (w_cV 2 hts q_24 q_25 q_26 q_27 q_28 rfl rfl (by decide) (by decide)) hl.1 rfl (lv_room (Nat.le_of_ble_eq_true rfl)) dX8_squareFreePart_28 (fun H locs hw => ?_)
  refine lv_aload_n hx hb dX8_squareFreePart_31 rfl (lv_at hl 0 rfl) ?_
  refine lv_iconst (v := Int32.ofInt (1)) hx hb dX8_squareFreePart_32 rfl ?_
  replace h := bnd h
  obtain ⟨⟨v6, M7⟩, e6, h⟩ := h
  refine m_callVl (k := 36) (As := [.int (Int32.ofInt (1))]) (rest := []) cx.fix hi hw (cc_X8_primitive (l := l) (G := G) (sz := H.size) hi e6) (by decide) rfl rfl (w_cV 1 hts q_64 q_65 q_66 q_67 q_68 rfl rfl (by decide) (by decide)) hl.1 rfl (lv_room (Nat.le_of_ble_eq_true rfl)) dX8_squareFreePart_33 (fun H locs hw => ?_)
  refine lv_pop2_2 hx hb dX8_squareFreePart_36 rfl ?_
  cases h
  exact kr _ _ _ _ dX8_squareFreePart_37 hw
theorem cc_X8_squareFreePart {l : Launch} {G : gG} {adr : Nat → Nat} {sz : Nat} (hi : adi adr) {n : Nat} {M M' : MI} (h : f_X8_squareFreePart n M = some M') : mV l yX8_squareFreePart cX8_squareFreePart 1 none { frames := 5, cells := 0, slots := 0, locals := 133 } G adr [.ref (adr 36)] (tm M) sz (tm M') := by
  refine wEnter (by decide) (Nat.le_of_ble_eq_true rfl) ?_
  intro p e s m below meth c ls cx hinit hl hsz hw
  exact b_X8_squareFreePart cx hi h (fun pc ls H locs hd hw => w_vret (post := fun (u : Mem) => u = tm M') (lf := fun u => (LL adr, wf G adr u)) cx.1 cx.2.1 cx.2.2.1 cx.2.2.2.2.2.2 (tm M') hw rfl hd) hl hw
theorem q_166 : Cond.fieldLink RX8 29 "LiftFactorsModel" "foundOften" "[I" ∈ uU := uU_in (by decide +kernel) (by decide +kernel)
def l_X8_countOften_17 (n : Nat) (v2 : Int) : MI → Option ((MI) ⊕ (MI)) := fun M4 =>
  Option.bind (f_X8_divides n ((40) + v2) (0) (20000000) M4) fun (v5, M6) =>
  Option.bind (gI v5 0) fun _ =>
  if v5 = 0 then
    some (.inl M6)
  else
    Option.bind (odI M6 43 v2) fun v7 =>
    Option.bind (osI M6 43 v2 (v7 + (1))) fun v8 =>
    Option.bind (f_X8_copy n (3) (0) v8) fun v9 =>
    some (.inr v9)
def l_X8_countOften_2 (n : Nat) : MI × Int → Option ((MI) ⊕ (MI × Int)) := fun (M1, v2) =>
  Option.bind (gI v2 (M1.2 36 11)) fun _ =>
  if (M1.2 36 11) ≤ v2 then
    some (.inl M1)
  else
    Option.bind (osI M1 43 v2 (0)) fun v3 =>
    Option.bind (lpF (l_X8_countOften_17 n v2) n v3) fun M11 =>
    some (.inr (M11, v2 + 1))
def f_X8_countOften (n : Nat) (M : MI) : Option MI :=
  Option.bind (lpF (l_X8_countOften_2 n) n (M, (0))) fun M13 =>
  some M13
set_option maxRecDepth 100000 in
set_option maxHeartbeats 8000000 in
theorem b_X8_countOften {p : Program} {l : Launch} {e : Env} {s : State} {m : MethodId} {args : Array Value} {below : List Frame} {meth : Method} {c : Code} {Q : State → Prop} {G : gG} {A : Nat → Prop} {adr : Nat → Nat} (cx : cX p s m args meth c cX8_countOften none 2 yX8_countOften.cls) (hi : adi adr) {n : Nat} {M M' : MI} 
    (h : f_X8_countOften n M = some M')
    (kr : ∀ (pc : Nat) (ls : Array Slot) (H : Heap) (locs : List Loc), decode cX8_countOften pc = .ok (.return_, 1) → wH G A s.heap s (LL adr) (wf G adr (tm M')) H locs → W p l e { frames := 2, cells := 0, slots := 0, locals := 56 } s m args below meth c H locs 0 0 Q (F0 m pc ls []))
    {ls : Array Slot} {H : Heap} {locs : List Loc} (hl : lv_has ls 2 [(0, .ref (adr 36))]) (hw : wH G A s.heap s (LL adr) (wf G adr (tm M)) H locs) : W p l e { frames := 2, cells := 0, slots := 0, locals := 56 } s m args below meth c H locs 0 0 Q (F0 m 0 ls []) := by
  obtain ⟨hx, hb, -, -, hown, hts, -⟩ := id cx
  have hown : s.vm.findClass RX8 = some m.cls := hown
  unfold f_X8_countOften at h
  refine lv_iconst (v := Int32.ofInt (0)) hx hb dX8_countOften_0 rfl ?_
  refine lv_istore_n (lv' := [(1, .int (Int32.ofInt (0))), (0, .ref (adr 36))]) hx hb dX8_countOften_1 rfl hl (by decide) rfl (fun ls hl => ?_)
  replace h := bnd h
  obtain ⟨M13, j12, h⟩ := h
  refine lp_W (Wst := fun (st : MI × Int) => ∀ (ls : Array Slot) (H : Heap) (locs : List Loc), lv_has ls 2 [(0, .ref (adr 36)), (1, .int (Int32.ofInt st.2))] → wH G A s.heap s (LL adr) (wf G adr (tm st.1)) H locs → W p l e { frames := 2, cells := 0, slots := 0, locals := 56 } s m args below meth c H locs 0 0 Q (F0 m 2 ls [])) (fin := fun (r : MI) => ∀ (ls : Array Slot) (H : Heap) (locs : List Loc), lv_has ls 2 [] → wH G A s.heap s (LL adr) (wf G adr (tm r)) H locs → W p l e { frames := 2, cells := 0, slots := 0, locals := 56 } s m args below meth c H locs 0 0 Q (F0 m 57 ls [])) ?_ n _ _ j12 ?_ _ _ _ (lv_sub hl [1, 0] rfl) hw
  · clear h j12 hw hl
    intro ⟨M1, v2⟩ x h k1 k2 ls H locs hl hw
    (try dsimp only at k1 k2 hl hw ⊢)
    unfold l_X8_countOften_2 at h
    (try dsimp only at h)
    refine lv_iload_n hx hb dX8_countOften_2 rfl (lv_at hl 1 rfl) ?_
    refine lv_aload_n hx hb dX8_countOften_3 rfl (lv_at hl 0 rfl) ?_
    refine m_get (k := 36) (C := RX8) (T := TX8) (N := 18) (ref := "LiftFactorsModel") (v := .int (Int32.ofInt (M1.2 36 11))) hx hb hi hts inX8_u hown hw (by decide) rfl 11 (by decide) q_131 rfl rfl dX8_countOften_4 ?_
    replace h := bnd h
    obtain ⟨_, hg, h⟩ := h
    refine o_icmp_ge (tgt := 57) hx hb hg dX8_countOften_7 (by decide) (fun hc => ?_) (fun hc => ?_)
    · replace h := ite_t hc h
      cases h
      exact k1 _ rfl _ _ _ (lv_sub hl [] rfl) hw
    · replace h := ite_f hc h
      refine lv_aload_n hx hb dX8_countOften_10 rfl (lv_at hl 0 rfl) ?_
      refine m_get (k := 36) (C := RX8) (T := TX8) (N := 18) (ref := "LiftFactorsModel") (v := .ref (adr 43)) hx hb hi hts inX8_u hown hw (by decide) rfl 12 (by decide) q_166 rfl rfl dX8_countOften_11 ?_
      refine lv_iload_n hx hb dX8_countOften_14 rfl (lv_at hl 1 rfl) ?_
      refine lv_iconst (v := Int32.ofInt (0)) hx hb dX8_countOften_15 rfl ?_
      replace h := bnd h
      obtain ⟨v3, e3, h⟩ := h
      refine o_iast hx hb hi hw e3 dX8_countOften_16 (fun H locs hw => ?_)
      replace h := bnd h
      obtain ⟨M11, j10, h⟩ := h
      refine lp_W (Wst := fun (st : MI) => ∀ (ls : Array Slot) (H : Heap) (locs : List Loc), lv_has ls 2 [(0, .ref (adr 36)), (1, .int (Int32.ofInt v2))] → wH G A s.heap s (LL adr) (wf G adr (tm st)) H locs → W p l e { frames := 2, cells := 0, slots := 0, locals := 56 } s m args below meth c H locs 0 0 Q (F0 m 17 ls [])) (fin := fun (r : MI) => ∀ (ls : Array Slot) (H : Heap) (locs : List Loc), lv_has ls 2 [(0, .ref (adr 36)), (1, .int (Int32.ofInt v2))] → wH G A s.heap s (LL adr) (wf G adr (tm r)) H locs → W p l e { frames := 2, cells := 0, slots := 0, locals := 56 } s m args below meth c H locs 0 0 Q (F0 m 51 ls [])) ?_ n _ _ j10 ?_ _ _ _ (lv_sub hl [0, 1] rfl) hw
      · clear h j10 hw hl
        intro M4 x h k1 k2 ls H locs hl hw
        (try dsimp only at k1 k2 hl hw ⊢)
        unfold l_X8_countOften_17 at h
        (try dsimp only at h)
        refine lv_aload_n hx hb dX8_countOften_17 rfl (lv_at hl 0 rfl) ?_
        refine lv_bipush (v := Int32.ofInt (40)) hx hb dX8_countOften_18 rfl ?_
        refine lv_iload_n hx hb dX8_countOften_20 rfl (lv_at hl 1 rfl) ?_
        refine o_iadd hx hb dX8_countOften_21 ?_
        refine lv_iconst (v := Int32.ofInt (0)) hx hb dX8_countOften_22 rfl ?_
        refine lv_ldc2 (v := Int64.ofInt (20000000)) hx hb hown (hts _ q_23) dX8_countOften_23 ?_
        replace h := bnd h
        obtain ⟨⟨v5, M6⟩, e5, h⟩ := h
        refine m_callVi (k := 36) (As := [.int (Int32.ofInt ((40) + v2)), .int (Int32.ofInt (0)), .long (Int64.ofInt (20000000))]) (rest := []) cx.fix hi hw (cc_X8_divides (l := l) (G := G) (sz := H.size) hi e5) (by decide) rfl rfl (w_cV 3 hts q_90 q_91 q_92 q_93 q_94 rfl rfl (by decide) (by decide)) hl.1 rfl (lv_room (Nat.le_of_ble_eq_true rfl)) dX8_countOften_26 (fun H locs hw => ?_)
        replace h := bnd h
        obtain ⟨_, hg, h⟩ := h
        refine o_if_eq (tgt := 51) hx hb hg dX8_countOften_29 (by decide) (fun hc => ?_) (fun hc => ?_)
        · replace h := ite_t hc h
          cases h
          exact k1 _ rfl _ _ _ (lv_sub hl [0, 1] rfl) hw
        · replace h := ite_f hc h
          refine lv_aload_n hx hb dX8_countOften_32 rfl (lv_at hl 0 rfl) ?_
          refine m_get (k := 36) (C := RX8) (T := TX8) (N := 18) (ref := "LiftFactorsModel") (v := .ref (adr 43)) hx hb hi hts inX8_u hown hw (by decide) rfl 12 (by decide) q_166 rfl rfl dX8_countOften_33 ?_
          refine lv_iload_n hx hb dX8_countOften_36 rfl (lv_at hl 1 rfl) ?_
          refine lv_dup2_11 hx hb dX8_countOften_37 rfl rfl ?_
          replace h := bnd h
          obtain ⟨v7, e7, h⟩ := h
          refine o_iald hx hb hi hw e7 dX8_countOften_38 ?_
          refine lv_iconst (v := Int32.ofInt (1)) hx hb dX8_countOften_39 rfl ?_
          refine o_iadd hx hb dX8_countOften_40 ?_
          replace h := bnd h
          obtain ⟨v8, e8, h⟩ := h
          refine o_iast hx hb hi hw e8 dX8_countOften_41 (fun H locs hw => ?_)
          refine lv_aload_n hx hb dX8_countOften_42 rfl (lv_at hl 0 rfl) ?_
          refine lv_iconst (v := Int32.ofInt (3)) hx hb dX8_countOften_43 rfl ?_
          refine lv_iconst (v := Int32.ofInt (0)) hx hb dX8_countOften_44 rfl ?_
          replace h := bnd h
          obtain ⟨v9, e9, h⟩ := h
          refine m_callVv (k := 36) (As := [.int (Int32.ofInt (3)), .int (Int32.ofInt (0))]) (rest := []) cx.fix hi hw (cc_X8_copy (l := l) (G := G) (sz := H.size) hi e9) (by decide) rfl rfl (w_cV 2 hts q_24 q_25 q_26 q_27 q_28 rfl rfl (by decide) (by decide)) hl.1 rfl (lv_room (Nat.le_of_ble_eq_true rfl)) dX8_countOften_45 (fun H locs hw => ?_)
          refine lv_goto (tgt := 17) hx hb dX8_countOften_48 (by decide) ?_
          cases h
          exact k2 _ rfl _ _ _ (lv_sub hl [0, 1] rfl) hw
      · clear hw hl
        intro ls H locs hl hw
        (try dsimp only at hl hw ⊢)
        refine lv_iinc (v := Int32.ofInt (v2 + 1)) (lv' := [(1, .int (Int32.ofInt (v2 + 1))), (0, .ref (adr 36))]) hx hb dX8_countOften_51 hl (k := 1) rfl (inc_o _ _) (by decide) rfl (fun ls hl => ?_)
        refine lv_goto (tgt := 2) hx hb dX8_countOften_54 (by decide) ?_
        cases h
        exact k2 _ rfl _ _ _ (lv_sub hl [1, 0] rfl) hw
  · clear hw hl
    intro ls H locs hl hw
    (try dsimp only at hl hw ⊢)
    cases h
    exact kr _ _ _ _ dX8_countOften_57 hw
theorem cc_X8_countOften {l : Launch} {G : gG} {adr : Nat → Nat} {sz : Nat} (hi : adi adr) {n : Nat} {M M' : MI} (h : f_X8_countOften n M = some M') : mV l yX8_countOften cX8_countOften 2 none { frames := 2, cells := 0, slots := 0, locals := 56 } G adr [.ref (adr 36)] (tm M) sz (tm M') := by
  refine wEnter (by decide) (Nat.le_of_ble_eq_true rfl) ?_
  intro p e s m below meth c ls cx hinit hl hsz hw
  exact b_X8_countOften cx hi h (fun pc ls H locs hd hw => w_vret (post := fun (u : Mem) => u = tm M') (lf := fun u => (LL adr, wf G adr u)) cx.1 cx.2.1 cx.2.2.1 cx.2.2.2.2.2.2 (tm M') hw rfl hd) hl hw
theorem q_167 : Cond.methodLink RX8 180 yX8_isPoly ∈ uU := uU_in (by decide +kernel) (by decide +kernel)
theorem q_168 : Cond.static yX8_isPoly ∈ uU := uU_in (by decide +kernel) (by decide +kernel)
theorem q_169 : Cond.initialized yX8_isPoly.cls ∈ uU := uU_in (by decide +kernel) (by decide +kernel)
theorem q_170 : Cond.code yX8_isPoly cX8_isPoly 1 (some .boolean) ∈ uU := uU_in (by decide +kernel) (by decide +kernel)
theorem q_171 : Cond.fieldLink RX8 45 "LiftFactorsModel" "thrown" "I" ∈ uU := uU_in (by decide +kernel) (by decide +kernel)
theorem q_172 : Cond.methodLink RX8 184 yX8_load ∈ uU := uU_in (by decide +kernel) (by decide +kernel)
theorem q_173 : Cond.instanceMethod yX8_load ∈ uU := uU_in (by decide +kernel) (by decide +kernel)
theorem q_174 : Cond.selects yX8_load.cls yX8_load yX8_load ∈ uU := uU_in (by decide +kernel) (by decide +kernel)
theorem q_175 : Cond.initialized yX8_load.cls ∈ uU := uU_in (by decide +kernel) (by decide +kernel)
theorem q_176 : Cond.code yX8_load cX8_load 4 none ∈ uU := uU_in (by decide +kernel) (by decide +kernel)
theorem q_177 : Cond.methodLink RX8 187 yX8_squareFreePart ∈ uU := uU_in (by decide +kernel) (by decide +kernel)
theorem q_178 : Cond.instanceMethod yX8_squareFreePart ∈ uU := uU_in (by decide +kernel) (by decide +kernel)
theorem q_179 : Cond.selects yX8_squareFreePart.cls yX8_squareFreePart yX8_squareFreePart ∈ uU := uU_in (by decide +kernel) (by decide +kernel)
theorem q_180 : Cond.initialized yX8_squareFreePart.cls ∈ uU := uU_in (by decide +kernel) (by decide +kernel)
theorem q_181 : Cond.code yX8_squareFreePart cX8_squareFreePart 1 none ∈ uU := uU_in (by decide +kernel) (by decide +kernel)
theorem q_182 : Cond.methodLink RX8 190 yX8_factorWhole ∈ uU := uU_in (by decide +kernel) (by decide +kernel)
theorem q_183 : Cond.instanceMethod yX8_factorWhole ∈ uU := uU_in (by decide +kernel) (by decide +kernel)
theorem q_184 : Cond.selects yX8_factorWhole.cls yX8_factorWhole yX8_factorWhole ∈ uU := uU_in (by decide +kernel) (by decide +kernel)
theorem q_185 : Cond.initialized yX8_factorWhole.cls ∈ uU := uU_in (by decide +kernel) (by decide +kernel)
theorem q_186 : Cond.code yX8_factorWhole cX8_factorWhole 6 none ∈ uU := uU_in (by decide +kernel) (by decide +kernel)
theorem q_187 : Cond.methodLink RX8 193 yX8_sort ∈ uU := uU_in (by decide +kernel) (by decide +kernel)
theorem q_188 : Cond.instanceMethod yX8_sort ∈ uU := uU_in (by decide +kernel) (by decide +kernel)
theorem q_189 : Cond.selects yX8_sort.cls yX8_sort yX8_sort ∈ uU := uU_in (by decide +kernel) (by decide +kernel)
theorem q_190 : Cond.initialized yX8_sort.cls ∈ uU := uU_in (by decide +kernel) (by decide +kernel)
theorem q_191 : Cond.code yX8_sort cX8_sort 3 none ∈ uU := uU_in (by decide +kernel) (by decide +kernel)
theorem q_192 : Cond.methodLink RX8 196 yX8_countOften ∈ uU := uU_in (by decide +kernel) (by decide +kernel)
theorem q_193 : Cond.instanceMethod yX8_countOften ∈ uU := uU_in (by decide +kernel) (by decide +kernel)
theorem q_194 : Cond.selects yX8_countOften.cls yX8_countOften yX8_countOften ∈ uU := uU_in (by decide +kernel) (by decide +kernel)
theorem q_195 : Cond.initialized yX8_countOften.cls ∈ uU := uU_in (by decide +kernel) (by decide +kernel)
theorem q_196 : Cond.code yX8_countOften cX8_countOften 2 none ∈ uU := uU_in (by decide +kernel) (by decide +kernel)
theorem q_197 : Cond.methodLink RX8 199 yX8_great ∈ uU := uU_in (by decide +kernel) (by decide +kernel)
theorem q_198 : Cond.instanceMethod yX8_great ∈ uU := uU_in (by decide +kernel) (by decide +kernel)
theorem q_199 : Cond.selects yX8_great.cls yX8_great yX8_great ∈ uU := uU_in (by decide +kernel) (by decide +kernel)
theorem q_200 : Cond.initialized yX8_great.cls ∈ uU := uU_in (by decide +kernel) (by decide +kernel)
theorem q_201 : Cond.code yX8_great cX8_great 3 (some .boolean) ∈ uU := uU_in (by decide +kernel) (by decide +kernel)
theorem q_202 : Cond.fieldLink RX8 202 "LiftFactorsModel" "factors" "I" ∈ uU := uU_in (by decide +kernel) (by decide +kernel)
theorem q_203 : Cond.fieldLink RX8 16 "LiftFactorsModel" "factorNumber" "[I" ∈ uU := uU_in (by decide +kernel) (by decide +kernel)
theorem q_204 : Cond.methodLink RX8 205 yX8_store ∈ uU := uU_in (by decide +kernel) (by decide +kernel)
theorem q_205 : Cond.instanceMethod yX8_store ∈ uU := uU_in (by decide +kernel) (by decide +kernel)
theorem q_206 : Cond.selects yX8_store.cls yX8_store yX8_store ∈ uU := uU_in (by decide +kernel) (by decide +kernel)
theorem q_207 : Cond.initialized yX8_store.cls ∈ uU := uU_in (by decide +kernel) (by decide +kernel)
theorem q_208 : Cond.code yX8_store cX8_store 3 (some .int) ∈ uU := uU_in (by decide +kernel) (by decide +kernel)
theorem q_209 : Cond.fieldLink RX8 19 "LiftFactorsModel" "multiplicity" "[I" ∈ uU := uU_in (by decide +kernel) (by decide +kernel)
def l_X8_run_110 (n : Nat) (M15 : MI) : Int → Option (((Int × MI) ⊕ (Unit)) ⊕ (Int)) := fun v16 =>
  Option.bind (gI v16 (M15.2 36 11)) fun _ =>
  if (M15.2 36 11) ≤ v16 then
    some (.inl (.inr ()))
  else
    Option.bind (f_X8_great n ((40) + v16) M15) fun v17 =>
    Option.bind (gI v17 0) fun _ =>
    if v17 = 0 then
      some (.inr (v16 + 1))
    else
      some (.inl (.inl ((-2), M15)))
def l_X8_run_148 (n : Nat) : MI × Int → Option ((MI) ⊕ (MI × Int)) := fun (M20, v21) =>
  Option.bind (gI v21 (M20.2 36 11)) fun _ =>
  if (M20.2 36 11) ≤ v21 then
    some (.inl M20)
  else
    Option.bind (f_X8_store n ((40) + v21) M20) fun (v22, M23) =>
    Option.bind (osI M23 39 v21 v22) fun v24 =>
    Option.bind (odI v24 43 v21) fun v25 =>
    Option.bind (osI v24 40 v21 v25) fun v26 =>
    some (.inr (v26, v21 + 1))
def f_X8_run (n : Nat) (a0 : Int) (M : MI) : Option (Int × MI) :=
  Option.bind (f_X8_isPoly a0) fun v1 =>
  Option.bind (
    Option.bind (gI v1 0) fun _ =>
    if v1 = 0 then
      some (1)
    else
      some (0)) fun v2 =>
  Option.bind (opI M 36 3 v2) fun v3 =>
  Option.bind (gI (v3.2 36 3) 0) fun _ =>
  if (v3.2 36 3) = 0 then
    Option.bind (f_X8_load n a0 (0) v3) fun v4 =>
    Option.bind (odI v4 42 (0)) fun v5 =>
    Option.bind (gI v5 0) fun _ =>
    if 0 ≤ v5 then
      Option.bind (
        Option.bind (gI v5 0) fun _ =>
        if v5 ≤ 0 then
          some (0)
        else
          Option.bind (gI ((80) - (v4.2 36 2)) v5) fun _ =>
          if v5 ≤ ((80) - (v4.2 36 2)) then
            some (0)
          else
            some (2)) fun v6 =>
      Option.bind (opI v4 36 3 v6) fun v7 =>
      Option.bind (gI (v7.2 36 3) 0) fun _ =>
      if (v7.2 36 3) = 0 then
        Option.bind (opI v7 36 11 (0)) fun v8 =>
        Option.bind (
          Option.bind (gI v5 0) fun _ =>
          if v5 ≤ 0 then
            some v8
          else
            Option.bind (f_X8_primitive n (0) v8) fun (v9, M10) =>
            Option.bind (f_X8_squareFreePart n M10) fun v11 =>
            Option.bind (f_X8_factorWhole n v11) fun v12 =>
            Option.bind (f_X8_sort n v12) fun v13 =>
            Option.bind (f_X8_countOften n v13) fun v14 =>
            some v14) fun M15 =>
        Option.bind (lpF (l_X8_run_110 n M15) n (0)) fun r => match r with
        | .inl o => some o
        | .inr () =>
          Option.bind (opI M15 36 4 (M15.2 36 11)) fun v19 =>
          Option.bind (lpF (l_X8_run_148 n) n (v19, (0))) fun M28 =>
          some (M28.2 36 11, M28)
      else
        some ((0), v7)
    else
      some ((-1), v4)
  else
    some ((0), v3)
set_option maxRecDepth 100000 in
set_option maxHeartbeats 8000000 in
theorem b_X8_run {p : Program} {l : Launch} {e : Env} {s : State} {m : MethodId} {args : Array Value} {below : List Frame} {meth : Method} {c : Code} {Q : State → Prop} {G : gG} {A : Nat → Prop} {adr : Nat → Nat} (cx : cX p s m args meth c cX8_run (some .int) 4 yX8_run.cls) (hi : adi adr) {n : Nat} {a0 : Int} {M M' : MI} {r : Int} 
    (h : f_X8_run n a0 M = some (r, M'))
    (kr : ∀ (pc : Nat) (ls : Array Slot) (H : Heap) (locs : List Loc), decode cX8_run pc = .ok (.ireturn, 1) → wH G A s.heap s (LL adr) (wf G adr (tm M')) H locs → W p l e { frames := 8, cells := 0, slots := 0, locals := 208 } s m args below meth c H locs 0 0 Q (F0 m pc ls [.int (Int32.ofInt r)]))
    {ls : Array Slot} {H : Heap} {locs : List Loc} (hl : lv_has ls 4 [(0, .ref (adr 36)), (1, .int (Int32.ofInt a0))]) (hw : wH G A s.heap s (LL adr) (wf G adr (tm M)) H locs) : W p l e { frames := 8, cells := 0, slots := 0, locals := 208 } s m args below meth c H locs 0 0 Q (F0 m 0 ls []) := by
  obtain ⟨hx, hb, -, -, hown, hts, -⟩ := id cx
  have hown : s.vm.findClass RX8 = some m.cls := hown
  unfold f_X8_run at h
  refine lv_aload_n hx hb dX8_run_0 rfl (lv_at hl 0 rfl) ?_
  refine lv_iload_n hx hb dX8_run_1 rfl (lv_at hl 1 rfl) ?_
  replace h := bnd h
  obtain ⟨v1, e1, h⟩ := h
  refine m_callSi (As := [.int (Int32.ofInt a0)]) (rest := [.ref (adr 36)]) cx.fix hw (cc_X8_isPoly (l := l) (G := G) (sz := H.size) (M := M) hi e1) (w_cS 1 hts q_167 q_168 q_169 q_170 rfl rfl (by decide) (by decide)) hl.1 rfl (lv_room (Nat.le_of_ble_eq_true rfl)) dX8_run_2 (fun H locs hw => ?_)
  replace h := bnd h
  obtain ⟨v2, j32, h⟩ := h
  have kj : ∀ (ls : Array Slot) (H : Heap) (locs : List Loc), lv_has ls 4 [(0, .ref (adr 36)), (1, .int (Int32.ofInt a0))] → wH G A s.heap s (LL adr) (wf G adr (tm M)) H locs → W p l e { frames := 8, cells := 0, slots := 0, locals := 208 } s m args below meth c H locs 0 0 Q (F0 m 13 ls [.int (Int32.ofInt v2), .ref (adr 36)]) := by
    intro ls H locs hl hw
    replace h := bnd h
    obtain ⟨v3, e3, h⟩ := h
    refine o_putI (k := 36) (C := RX8) (T := TX8) (N := 18) (ref := "LiftFactorsModel") hx hb hi hts inX8_u tyX8 tyX8_ok nmX8 hown hw (by decide) rfl 3 (by decide) q_171 rfl rfl e3 (by decide +kernel) rfl dX8_run_13 (fun H locs hw => ?_)
    refine lv_aload_n hx hb dX8_run_16 rfl (lv_at hl 0 rfl) ?_
    refine m_get (k := 36) (C := RX8) (T := TX8) (N := 18) (ref := "LiftFactorsModel") (v := .int (Int32.ofInt (v3.2 36 3))) hx hb hi hts inX8_u hown hw (by decide) rfl 3 (by decide) q_171 rfl rfl dX8_run_17 ?_
    replace h := bnd h
    obtain ⟨_, hg, h⟩ := h
    refine o_if_eq (tgt := 25) hx hb hg dX8_run_20 (by decide) (fun hc => ?_) (fun hc => ?_)
    · replace h := ite_t hc h
      refine lv_aload_n hx hb dX8_run_25 rfl (lv_at hl 0 rfl) ?_
      refine lv_iload_n hx hb dX8_run_26 rfl (lv_at hl 1 rfl) ?_
      refine lv_iconst (v := Int32.ofInt (0)) hx hb dX8_run_27 rfl ?_
      replace h := bnd h
      obtain ⟨v4, e4, h⟩ := h
      refine m_callVv (k := 36) (As := [.int (Int32.ofInt a0), .int (Int32.ofInt (0))]) (rest := []) cx.fix hi hw (cc_X8_load (l := l) (G := G) (sz := H.size) hi e4) (by decide) rfl rfl (w_cV 2 hts q_172 q_173 q_174 q_175 q_176 rfl rfl (by decide) (by decide)) hl.1 rfl (lv_room (Nat.le_of_ble_eq_true rfl)) dX8_run_28 (fun H locs hw => ?_)
      refine lv_aload_n hx hb dX8_run_31 rfl (lv_at hl 0 rfl) ?_
      refine m_get (k := 36) (C := RX8) (T := TX8) (N := 18) (ref := "LiftFactorsModel") (v := .ref (adr 42)) hx hb hi hts inX8_u hown hw (by decide) rfl 8 (by decide) q_1 rfl rfl dX8_run_32 ?_
      refine lv_iconst (v := Int32.ofInt (0)) hx hb dX8_run_35 rfl ?_
      replace h := bnd h
      obtain ⟨v5, e5, h⟩ := h
      refine o_iald hx hb hi hw e5 dX8_run_36 ?_
      refine lv_istore_n (lv' := [(2, .int (Int32.ofInt v5)), (0, .ref (adr 36)), (1, .int (Int32.ofInt a0))]) hx hb dX8_run_37 rfl hl (by decide) rfl (fun ls hl => ?_)
      refine lv_iload_n hx hb dX8_run_38 rfl (lv_at hl 0 rfl) ?_
      replace h := bnd h
      obtain ⟨_, hg, h⟩ := h
      refine o_if_ge (tgt := 44) hx hb hg dX8_run_39 (by decide) (fun hc => ?_) (fun hc => ?_)
      · replace h := ite_t hc h
        refine lv_aload_n hx hb dX8_run_44 rfl (lv_at hl 1 rfl) ?_
        refine lv_iload_n hx hb dX8_run_45 rfl (lv_at hl 0 rfl) ?_
        replace h := bnd h
        obtain ⟨v6, j31, h⟩ := h
        have kj : ∀ (ls : Array Slot) (H : Heap) (locs : List Loc), lv_has ls 4 [(0, .ref (adr 36)), (2, .int (Int32.ofInt v5))] → wH G A s.heap s (LL adr) (wf G adr (tm v4)) H locs → W p l e { frames := 8, cells := 0, slots := 0, locals := 208 } s m args below meth c H locs 0 0 Q (F0 m 65 ls [.int (Int32.ofInt v6), .ref (adr 36)]) := by
          intro ls H locs hl hw
          replace h := bnd h
          obtain ⟨v7, e7, h⟩ := h
          refine o_putI (k := 36) (C := RX8) (T := TX8) (N := 18) (ref := "LiftFactorsModel") hx hb hi hts inX8_u tyX8 tyX8_ok nmX8 hown hw (by decide) rfl 3 (by decide) q_171 rfl rfl e7 (by decide +kernel) rfl dX8_run_65 (fun H locs hw => ?_)
          refine lv_aload_n hx hb dX8_run_68 rfl (lv_at hl 0 rfl) ?_
          refine m_get (k := 36) (C := RX8) (T := TX8) (N := 18) (ref := "LiftFactorsModel") (v := .int (Int32.ofInt (v7.2 36 3))) hx hb hi hts inX8_u hown hw (by decide) rfl 3 (by decide) q_171 rfl rfl dX8_run_69 ?_
          replace h := bnd h
          obtain ⟨_, hg, h⟩ := h
          refine o_if_eq (tgt := 77) hx hb hg dX8_run_72 (by decide) (fun hc => ?_) (fun hc => ?_)
          · replace h := ite_t hc h
            refine lv_aload_n hx hb dX8_run_77 rfl (lv_at hl 0 rfl) ?_
            refine lv_iconst (v := Int32.ofInt (0)) hx hb dX8_run_78 rfl ?_
            replace h := bnd h
            obtain ⟨v8, e8, h⟩ := h
            refine o_putI (k := 36) (C := RX8) (T := TX8) (N := 18) (ref := "LiftFactorsModel") hx hb hi hts inX8_u tyX8 tyX8_ok nmX8 hown hw (by decide) rfl 11 (by decide) q_131 rfl rfl e8 (by decide +kernel) rfl dX8_run_79 (fun H locs hw => ?_)
            refine lv_iload_n hx hb dX8_run_82 rfl (lv_at hl 1 rfl) ?_
            replace h := bnd h
            obtain ⟨M15, j30, h⟩ := h
            have kj : ∀ (ls : Array Slot) (H : Heap) (locs : List Loc), lv_has ls 4 [(0, .ref (adr 36))] → wH G A s.heap s (LL adr) (wf G adr (tm M15)) H locs → W p l e { frames := 8, cells := 0, slots := 0, locals := 208 } s m args below meth c H locs 0 0 Q (F0 m 108 ls []) := by
              intro ls H locs hl hw
              refine lv_iconst (v := Int32.ofInt (0)) hx hb dX8_run_108 rfl ?_
              refine lv_istore_n (lv' := [(3, .int (Int32.ofInt (0))), (0, .ref (adr 36))]) hx hb dX8_run_109 rfl hl (by decide) rfl (fun ls hl => ?_)
              replace h := bnd h
              obtain ⟨o29, j18, h⟩ := h
              refine lp_W (Wst := fun (st : Int) => ∀ (ls : Array Slot) (H : Heap) (locs : List Loc), lv_has ls 4 [(0, .ref (adr 36)), (3, .int (Int32.ofInt st))] → wH G A s.heap s (LL adr) (wf G adr (tm M15)) H locs → W p l e { frames := 8, cells := 0, slots := 0, locals := 208 } s m args below meth c H locs 0 0 Q (F0 m 110 ls [])) (fin := fun (r : (Int × MI) ⊕ (Unit)) => match r with
      | .inl o => ∀ (pc : Nat) (ls : Array Slot) (H : Heap) (locs : List Loc), decode cX8_run pc = .ok (.ireturn, 1) → wH G A s.heap s (LL adr) (wf G adr (tm o.2)) H locs → W p l e { frames := 8, cells := 0, slots := 0, locals := 208 } s m args below meth c H locs 0 0 Q (F0 m pc ls [.int (Int32.ofInt o.1)])
      | .inr q => ∀ (ls : Array Slot) (H : Heap) (locs : List Loc), lv_has ls 4 [(0, .ref (adr 36))] → wH G A s.heap s (LL adr) (wf G adr (tm M15)) H locs → W p l e { frames := 8, cells := 0, slots := 0, locals := 208 } s m args below meth c H locs 0 0 Q (F0 m 138 ls [])) ?_ n _ _ j18 ?_ _ _ _ (lv_sub hl [1, 0] rfl) hw
              · clear h j18 hw hl
                intro v16 x h k1 k2 ls H locs hl hw
                (try dsimp only at k2 hl hw ⊢)
                unfold l_X8_run_110 at h
                (try dsimp only at h)
                refine lv_iload_n hx hb dX8_run_110 rfl (lv_at hl 1 rfl) ?_
                refine lv_aload_n hx hb dX8_run_111 rfl (lv_at hl 0 rfl) ?_
                refine m_get (k := 36) (C := RX8) (T := TX8) (N := 18) (ref := "LiftFactorsModel") (v := .int (Int32.ofInt (M15.2 36 11))) hx hb hi hts inX8_u hown hw (by decide) rfl 11 (by decide) q_131 rfl rfl dX8_run_112 ?_
                replace h := bnd h
                obtain ⟨_, hg, h⟩ := h
                refine o_icmp_ge (tgt := 138) hx hb hg dX8_run_115 (by decide) (fun hc => ?_) (fun hc => ?_)
                · replace h := ite_t hc h
                  cases h
                  exact k1 _ rfl _ _ _ (lv_sub hl [0] rfl) hw
                · replace h := ite_f hc h
                  refine lv_aload_n hx hb dX8_run_118 rfl (lv_at hl 0 rfl) ?_
                  refine lv_bipush (v := Int32.ofInt (40)) hx hb dX8_run_119 rfl ?_
                  refine lv_iload_n hx hb dX8_run_121 rfl (lv_at hl 1 rfl) ?_
                  refine o_iadd hx hb dX8_run_122 ?_
                  replace h := bnd h
                  obtain ⟨v17, e17, h⟩ := h
                  refine m_callVi (k := 36) (As := [.int (Int32.ofInt ((40) + v16))]) (rest := []) cx.fix hi hw (cc_X8_great (l := l) (G := G) (sz := H.size) hi e17) (by decide) rfl rfl (w_cV 1 hts q_197 q_198 q_199 q_200 q_201 rfl rfl (by decide) (by decide)) hl.1 rfl (lv_room (Nat.le_of_ble_eq_true rfl)) dX8_run_123 (fun H locs hw => ?_)
                  replace h := bnd h
                  obtain ⟨_, hg, h⟩ := h
                  refine o_if_eq (tgt := 132) hx hb hg dX8_run_126 (by decide) (fun hc => ?_) (fun hc => ?_)
                  · replace h := ite_t hc h
                    refine lv_iinc (v := Int32.ofInt (v16 + 1)) (lv' := [(3, .int (Int32.ofInt (v16 + 1))), (0, .ref (adr 36))]) hx hb dX8_run_132 hl (k := 1) rfl (inc_o _ _) (by decide) rfl (fun ls hl => ?_)
                    refine lv_goto (tgt := 110) hx hb dX8_run_135 (by decide) ?_
                    cases h
                    exact k2 _ rfl _ _ _ (lv_sub hl [1, 0] rfl) hw
                  · replace h := ite_f hc h
                    refine lv_bipush (v := Int32.ofInt (-2)) hx hb dX8_run_129 rfl ?_
                    cases h
                    exact k1 _ rfl _ _ _ _ dX8_run_131 hw
              · clear hw hl j18
                rcases o29 with o9 | _
                · cases h
                  exact kr
                · intro ls H locs hl hw
                  (try dsimp only at h hl hw ⊢)
                  refine lv_aload_n hx hb dX8_run_138 rfl (lv_at hl 0 rfl) ?_
                  refine lv_aload_n hx hb dX8_run_139 rfl (lv_at hl 0 rfl) ?_
                  refine m_get (k := 36) (C := RX8) (T := TX8) (N := 18) (ref := "LiftFactorsModel") (v := .int (Int32.ofInt (M15.2 36 11))) hx hb hi hts inX8_u hown hw (by decide) rfl 11 (by decide) q_131 rfl rfl dX8_run_140 ?_
                  replace h := bnd h
                  obtain ⟨v19, e19, h⟩ := h
                  refine o_putI (k := 36) (C := RX8) (T := TX8) (N := 18) (ref := "LiftFactorsModel") hx hb hi hts inX8_u tyX8 tyX8_ok nmX8 hown hw (by decide) rfl 4 (by decide) q_202 rfl rfl e19 (by decide +kernel) rfl dX8_run_143 (fun H locs hw => ?_)
                  refine lv_iconst (v := Int32.ofInt (0)) hx hb dX8_run_146 rfl ?_
                  refine lv_istore_n (lv' := [(3, .int (Int32.ofInt (0))), (0, .ref (adr 36))]) hx hb dX8_run_147 rfl hl (by decide) rfl (fun ls hl => ?_)
                  replace h := bnd h
                  obtain ⟨M28, j27, h⟩ := h
                  refine lp_W (Wst := fun (st : MI × Int) => ∀ (ls : Array Slot) (H : Heap) (locs : List Loc), lv_has ls 4 [(0, .ref (adr 36)), (3, .int (Int32.ofInt st.2))] → wH G A s.heap s (LL adr) (wf G adr (tm st.1)) H locs → W p l e { frames := 8, cells := 0, slots := 0, locals := 208 } s m args below meth c H locs 0 0 Q (F0 m 148 ls [])) (fin := fun (r : MI) => ∀ (ls : Array Slot) (H : Heap) (locs : List Loc), lv_has ls 4 [(0, .ref (adr 36))] → wH G A s.heap s (LL adr) (wf G adr (tm r)) H locs → W p l e { frames := 8, cells := 0, slots := 0, locals := 208 } s m args below meth c H locs 0 0 Q (F0 m 188 ls [])) ?_ n _ _ j27 ?_ _ _ _ (lv_sub hl [1, 0] rfl) hw
                  · clear h j27 hw hl
                    intro ⟨M20, v21⟩ x h k1 k2 ls H locs hl hw
                    (try dsimp only at k1 k2 hl hw ⊢)
                    unfold l_X8_run_148 at h
                    (try dsimp only at h)
                    refine lv_iload_n hx hb dX8_run_148 rfl (lv_at hl 1 rfl) ?_
                    refine lv_aload_n hx hb dX8_run_149 rfl (lv_at hl 0 rfl) ?_
                    refine m_get (k := 36) (C := RX8) (T := TX8) (N := 18) (ref := "LiftFactorsModel") (v := .int (Int32.ofInt (M20.2 36 11))) hx hb hi hts inX8_u hown hw (by decide) rfl 11 (by decide) q_131 rfl rfl dX8_run_150 ?_
                    replace h := bnd h
                    obtain ⟨_, hg, h⟩ := h
                    refine o_icmp_ge (tgt := 188) hx hb hg dX8_run_153 (by decide) (fun hc => ?_) (fun hc => ?_)
                    · replace h := ite_t hc h
                      cases h
                      exact k1 _ rfl _ _ _ (lv_sub hl [0] rfl) hw
                    · replace h := ite_f hc h
                      refine lv_aload_n hx hb dX8_run_156 rfl (lv_at hl 0 rfl) ?_
                      refine m_get (k := 36) (C := RX8) (T := TX8) (N := 18) (ref := "LiftFactorsModel") (v := .ref (adr 39)) hx hb hi hts inX8_u hown hw (by decide) rfl 5 (by decide) q_203 rfl rfl dX8_run_157 ?_
                      refine lv_iload_n hx hb dX8_run_160 rfl (lv_at hl 1 rfl) ?_
                      refine lv_aload_n hx hb dX8_run_161 rfl (lv_at hl 0 rfl) ?_
                      refine lv_bipush (v := Int32.ofInt (40)) hx hb dX8_run_162 rfl ?_
                      refine lv_iload_n hx hb dX8_run_164 rfl (lv_at hl 1 rfl) ?_
                      refine o_iadd hx hb dX8_run_165 ?_
                      replace h := bnd h
                      obtain ⟨⟨v22, M23⟩, e22, h⟩ := h
                      refine m_callVi (k := 36) (As := [.int (Int32.ofInt ((40) + v21))]) (rest := [.int (Int32.ofInt v21), .ref (adr 39)]) cx.fix hi hw (cc_X8_store (l := l) (G := G) (sz := H.size) hi e22) (by decide) rfl rfl (w_cV 1 hts q_204 q_205 q_206 q_207 q_208 rfl rfl (by decide) (by decide)) hl.1 rfl (lv_room (Nat.le_of_ble_eq_true rfl)) dX8_run_166 (fun H locs hw => ?_)
                      replace h := bnd h
                      obtain ⟨v24, e24, h⟩ := h
                      refine o_iast hx hb hi hw e24 dX8_run_169 (fun H locs hw => ?_)
                      refine lv_aload_n hx hb dX8_run_170 rfl (lv_at hl 0 rfl) ?_
                      refine m_get (k := 36) (C := RX8) (T := TX8) (N := 18) (ref := "LiftFactorsModel") (v := .ref (adr 40)) hx hb hi hts inX8_u hown hw (by decide) rfl 6 (by decide) q_209 rfl rfl dX8_run_171 ?_
                      refine lv_iload_n hx hb dX8_run_174 rfl (lv_at hl 1 rfl) ?_
                      refine lv_aload_n hx hb dX8_run_175 rfl (lv_at hl 0 rfl) ?_
                      refine m_get (k := 36) (C := RX8) (T := TX8) (N := 18) (ref := "LiftFactorsModel") (v := .ref (adr 43)) hx hb hi hts inX8_u hown hw (by decide) rfl 12 (by decide) q_166 rfl rfl dX8_run_176 ?_
                      refine lv_iload_n hx hb dX8_run_179 rfl (lv_at hl 1 rfl) ?_
                      replace h := bnd h
                      obtain ⟨v25, e25, h⟩ := h
                      refine o_iald hx hb hi hw e25 dX8_run_180 ?_
                      replace h := bnd h
                      obtain ⟨v26, e26, h⟩ := h
                      refine o_iast hx hb hi hw e26 dX8_run_181 (fun H locs hw => ?_)
                      refine lv_iinc (v := Int32.ofInt (v21 + 1)) (lv' := [(3, .int (Int32.ofInt (v21 + 1))), (0, .ref (adr 36))]) hx hb dX8_run_182 hl (k := 1) rfl (inc_o _ _) (by decide) rfl (fun ls hl => ?_)
                      refine lv_goto (tgt := 148) hx hb dX8_run_185 (by decide) ?_
                      cases h
                      exact k2 _ rfl _ _ _ (lv_sub hl [1, 0] rfl) hw
                  · clear hw hl
                    intro ls H locs hl hw
                    (try dsimp only at hl hw ⊢)
                    refine lv_aload_n hx hb dX8_run_188 rfl (lv_at hl 0 rfl) ?_
                    refine m_get (k := 36) (C := RX8) (T := TX8) (N := 18) (ref := "LiftFactorsModel") (v := .int (Int32.ofInt (M28.2 36 11))) hx hb hi hts inX8_u hown hw (by decide) rfl 11 (by decide) q_131 rfl rfl dX8_run_189 ?_
                    cases h
                    exact kr _ _ _ _ dX8_run_192 hw
            clear h
            replace h := j30
            clear j30
            replace h := bnd h
            obtain ⟨_, hg, h⟩ := h
            refine o_if_le (tgt := 108) hx hb hg dX8_run_83 (by decide) (fun hc => ?_) (fun hc => ?_)
            · replace h := ite_t hc h
              cases h
              exact kj _ _ _ (lv_sub hl [0] rfl) hw
            · replace h := ite_f hc h
              refine lv_aload_n hx hb dX8_run_86 rfl (lv_at hl 0 rfl) ?_
              refine lv_iconst (v := Int32.ofInt (0)) hx hb dX8_run_87 rfl ?_
              replace h := bnd h
              obtain ⟨⟨v9, M10⟩, e9, h⟩ := h
              refine m_callVl (k := 36) (As := [.int (Int32.ofInt (0))]) (rest := []) cx.fix hi hw (cc_X8_primitive (l := l) (G := G) (sz := H.size) hi e9) (by decide) rfl rfl (w_cV 1 hts q_64 q_65 q_66 q_67 q_68 rfl rfl (by decide) (by decide)) hl.1 rfl (lv_room (Nat.le_of_ble_eq_true rfl)) dX8_run_88 (fun H locs hw => ?_)
              refine lv_pop2_2 hx hb dX8_run_91 rfl ?_
              refine lv_aload_n hx hb dX8_run_92 rfl (lv_at hl 0 rfl) ?_
              replace h := bnd h
              obtain ⟨v11, e11, h⟩ := h
              refine m_callVv (k := 36) (As := []) (rest := []) cx.fix hi hw (cc_X8_squareFreePart (l := l) (G := G) (sz := H.size) hi e11) (by decide) rfl rfl (w_cV 0 hts q_177 q_178 q_179 q_180 q_181 rfl rfl (by decide) (by decide)) hl.1 rfl (lv_room (Nat.le_of_ble_eq_true rfl)) dX8_run_93 (fun H locs hw => ?_)
              refine lv_aload_n hx hb dX8_run_96 rfl (lv_at hl 0 rfl) ?_
              replace h := bnd h
              obtain ⟨v12, e12, h⟩ := h
              refine m_callVv (k := 36) (As := []) (rest := []) cx.fix hi hw (cc_X8_factorWhole (l := l) (G := G) (sz := H.size) hi e12) (by decide) rfl rfl (w_cV 0 hts q_182 q_183 q_184 q_185 q_186 rfl rfl (by decide) (by decide)) hl.1 rfl (lv_room (Nat.le_of_ble_eq_true rfl)) dX8_run_97 (fun H locs hw => ?_)
              refine lv_aload_n hx hb dX8_run_100 rfl (lv_at hl 0 rfl) ?_
              replace h := bnd h
              obtain ⟨v13, e13, h⟩ := h
              refine m_callVv (k := 36) (As := []) (rest := []) cx.fix hi hw (cc_X8_sort (l := l) (G := G) (sz := H.size) hi e13) (by decide) rfl rfl (w_cV 0 hts q_187 q_188 q_189 q_190 q_191 rfl rfl (by decide) (by decide)) hl.1 rfl (lv_room (Nat.le_of_ble_eq_true rfl)) dX8_run_101 (fun H locs hw => ?_)
              refine lv_aload_n hx hb dX8_run_104 rfl (lv_at hl 0 rfl) ?_
              replace h := bnd h
              obtain ⟨v14, e14, h⟩ := h
              refine m_callVv (k := 36) (As := []) (rest := []) cx.fix hi hw (cc_X8_countOften (l := l) (G := G) (sz := H.size) hi e14) (by decide) rfl rfl (w_cV 0 hts q_192 q_193 q_194 q_195 q_196 rfl rfl (by decide) (by decide)) hl.1 rfl (lv_room (Nat.le_of_ble_eq_true rfl)) dX8_run_105 (fun H locs hw => ?_)
              cases h
              exact kj _ _ _ (lv_sub hl [0] rfl) hw
          · replace h := ite_f hc h
            refine lv_iconst (v := Int32.ofInt (0)) hx hb dX8_run_75 rfl ?_
            cases h
            exact kr _ _ _ _ dX8_run_76 hw
        clear h
        replace h := j31
        clear j31
        replace h := bnd h
        obtain ⟨_, hg, h⟩ := h
        refine o_if_le (tgt := 64) hx hb hg dX8_run_46 (by decide) (fun hc => ?_) (fun hc => ?_)
        · replace h := ite_t hc h
          refine lv_iconst (v := Int32.ofInt (0)) hx hb dX8_run_64 rfl ?_
          cases h
          exact kj _ _ _ (lv_sub hl [1, 0] rfl) hw
        · replace h := ite_f hc h
          refine lv_bipush (v := Int32.ofInt (80)) hx hb dX8_run_49 rfl ?_
          refine lv_aload_n hx hb dX8_run_51 rfl (lv_at hl 1 rfl) ?_
          refine m_get (k := 36) (C := RX8) (T := TX8) (N := 18) (ref := "LiftFactorsModel") (v := .int (Int32.ofInt (v4.2 36 2))) hx hb hi hts inX8_u hown hw (by decide) rfl 2 (by decide) q_16 rfl rfl dX8_run_52 ?_
          refine o_isub hx hb dX8_run_55 ?_
          refine lv_iload_n hx hb dX8_run_56 rfl (lv_at hl 0 rfl) ?_
          replace h := bnd h
          obtain ⟨_, hg, h⟩ := h
          refine o_icmp_ge (tgt := 64) hx hb hg dX8_run_57 (by decide) (fun hc => ?_) (fun hc => ?_)
          · replace h := ite_t hc h
            refine lv_iconst (v := Int32.ofInt (0)) hx hb dX8_run_64 rfl ?_
            cases h
            exact kj _ _ _ (lv_sub hl [1, 0] rfl) hw
          · replace h := ite_f hc h
            refine lv_iconst (v := Int32.ofInt (2)) hx hb dX8_run_60 rfl ?_
            refine lv_goto (tgt := 65) hx hb dX8_run_61 (by decide) ?_
            cases h
            exact kj _ _ _ (lv_sub hl [1, 0] rfl) hw
      · replace h := ite_f hc h
        refine lv_iconst (v := Int32.ofInt (-1)) hx hb dX8_run_42 rfl ?_
        cases h
        exact kr _ _ _ _ dX8_run_43 hw
    · replace h := ite_f hc h
      refine lv_iconst (v := Int32.ofInt (0)) hx hb dX8_run_23 rfl ?_
      cases h
      exact kr _ _ _ _ dX8_run_24 hw
  clear h
  replace h := j32
  clear j32
  replace h := bnd h
  obtain ⟨_, hg, h⟩ := h
  refine o_if_eq (tgt := 12) hx hb hg dX8_run_5 (by decide) (fun hc => ?_) (fun hc => ?_)
  · replace h := ite_t hc h
    refine lv_iconst (v := Int32.ofInt (1)) hx hb dX8_run_12 rfl ?_
    cases h
    exact kj _ _ _ (lv_sub hl [0, 1] rfl) hw
  · replace h := ite_f hc h
    refine lv_iconst (v := Int32.ofInt (0)) hx hb dX8_run_8 rfl ?_
    refine lv_goto (tgt := 13) hx hb dX8_run_9 (by decide) ?_
    cases h
    exact kj _ _ _ (lv_sub hl [0, 1] rfl) hw
theorem cc_X8_run {l : Launch} {G : gG} {adr : Nat → Nat} {sz : Nat} (hi : adi adr) {n : Nat} {a0 : Int} {M M' : MI} {r : Int} (h : f_X8_run n a0 M = some (r, M')) : mI l yX8_run cX8_run 4 (some .int) { frames := 8, cells := 0, slots := 0, locals := 208 } G adr [.ref (adr 36), .int (Int32.ofInt a0)] (tm M) sz (Int32.ofInt r) (tm M') := by
  refine wEnter (by decide) (Nat.le_of_ble_eq_true rfl) ?_
  intro p e s m below meth c ls cx hinit hl hsz hw
  exact b_X8_run cx hi h (fun pc ls H locs hd hw => w_iret (post := fun (r9 : Int32) (u : Mem) => r9 = Int32.ofInt r ∧ u = tm M') (lf := fun u => (LL adr, wf G adr u)) cx.1 cx.2.1 cx.2.2.1 cx.2.2.2.2.2.2 (tm M') hw ⟨rfl, rfl⟩ hd) hl hw
def f_X8_factor (a0 : Int) (M : MI) : Option (Int × MI) :=
  Option.bind (
    Option.bind (gI a0 0) fun _ =>
    if a0 < 0 then
      some (1)
    else
      Option.bind (gI a0 (M.2 36 4)) fun _ =>
      if a0 < (M.2 36 4) then
        some (0)
      else
        some (1)) fun v1 =>
  Option.bind (opI M 36 3 v1) fun v2 =>
  Option.bind (
    Option.bind (gI (v2.2 36 3) 0) fun _ =>
    if (v2.2 36 3) = 0 then
      Option.bind (odI v2 39 a0) fun v3 =>
      some v3
    else
      some (0)) fun v4 =>
  some (v4, v2)
set_option maxRecDepth 100000 in
set_option maxHeartbeats 8000000 in
theorem b_X8_factor {p : Program} {l : Launch} {e : Env} {s : State} {m : MethodId} {args : Array Value} {below : List Frame} {meth : Method} {c : Code} {Q : State → Prop} {G : gG} {A : Nat → Prop} {adr : Nat → Nat} (cx : cX p s m args meth c cX8_factor (some .int) 2 yX8_factor.cls) (hi : adi adr) {a0 : Int} {M M' : MI} {r : Int} 
    (h : f_X8_factor a0 M = some (r, M'))
    (kr : ∀ (pc : Nat) (ls : Array Slot) (H : Heap) (locs : List Loc), decode cX8_factor pc = .ok (.ireturn, 1) → wH G A s.heap s (LL adr) (wf G adr (tm M')) H locs → W p l e { frames := 0, cells := 0, slots := 0, locals := 0 } s m args below meth c H locs 0 0 Q (F0 m pc ls [.int (Int32.ofInt r)]))
    {ls : Array Slot} {H : Heap} {locs : List Loc} (hl : lv_has ls 2 [(0, .ref (adr 36)), (1, .int (Int32.ofInt a0))]) (hw : wH G A s.heap s (LL adr) (wf G adr (tm M)) H locs) : W p l e { frames := 0, cells := 0, slots := 0, locals := 0 } s m args below meth c H locs 0 0 Q (F0 m 0 ls []) := by
  obtain ⟨hx, hb, -, -, hown, hts, -⟩ := id cx
  have hown : s.vm.findClass RX8 = some m.cls := hown
  unfold f_X8_factor at h
  refine lv_aload_n hx hb dX8_factor_0 rfl (lv_at hl 0 rfl) ?_
  refine lv_iload_n hx hb dX8_factor_1 rfl (lv_at hl 1 rfl) ?_
  replace h := bnd h
  obtain ⟨v1, j6, h⟩ := h
  have kj : ∀ (ls : Array Slot) (H : Heap) (locs : List Loc), lv_has ls 2 [(0, .ref (adr 36)), (1, .int (Int32.ofInt a0))] → wH G A s.heap s (LL adr) (wf G adr (tm M)) H locs → W p l e { frames := 0, cells := 0, slots := 0, locals := 0 } s m args below meth c H locs 0 0 Q (F0 m 18 ls [.int (Int32.ofInt v1), .ref (adr 36)]) := by
    intro ls H locs hl hw
    replace h := bnd h
    obtain ⟨v2, e2, h⟩ := h
    refine o_putI (k := 36) (C := RX8) (T := TX8) (N := 18) (ref := "LiftFactorsModel") hx hb hi hts inX8_u tyX8 tyX8_ok nmX8 hown hw (by decide) rfl 3 (by decide) q_171 rfl rfl e2 (by decide +kernel) rfl dX8_factor_18 (fun H locs hw => ?_)
    refine lv_aload_n hx hb dX8_factor_21 rfl (lv_at hl 0 rfl) ?_
    refine m_get (k := 36) (C := RX8) (T := TX8) (N := 18) (ref := "LiftFactorsModel") (v := .int (Int32.ofInt (v2.2 36 3))) hx hb hi hts inX8_u hown hw (by decide) rfl 3 (by decide) q_171 rfl rfl dX8_factor_22 ?_
    replace h := bnd h
    obtain ⟨v4, j5, h⟩ := h
    have kj : ∀ (ls : Array Slot) (H : Heap) (locs : List Loc), lv_has ls 2 [] → wH G A s.heap s (LL adr) (wf G adr (tm v2)) H locs → W p l e { frames := 0, cells := 0, slots := 0, locals := 0 } s m args below meth c H locs 0 0 Q (F0 m 38 ls [.int (Int32.ofInt v4)]) := by
      intro ls H locs hl hw
      cases h
      exact kr _ _ _ _ dX8_factor_38 hw
    clear h
    replace h := j5
    clear j5
    replace h := bnd h
    obtain ⟨_, hg, h⟩ := h
    refine o_if_eq (tgt := 32) hx hb hg dX8_factor_25 (by decide) (fun hc => ?_) (fun hc => ?_)
    · replace h := ite_t hc h
      refine lv_aload_n hx hb dX8_factor_32 rfl (lv_at hl 0 rfl) ?_
      refine m_get (k := 36) (C := RX8) (T := TX8) (N := 18) (ref := "LiftFactorsModel") (v := .ref (adr 39)) hx hb hi hts inX8_u hown hw (by decide) rfl 5 (by decide) q_203 rfl rfl dX8_factor_33 ?_
      refine lv_iload_n hx hb dX8_factor_36 rfl (lv_at hl 1 rfl) ?_
      replace h := bnd h
      obtain ⟨v3, e3, h⟩ := h
      refine o_iald hx hb hi hw e3 dX8_factor_37 ?_
      cases h
      exact kj _ _ _ (lv_sub hl [] rfl) hw
    · replace h := ite_f hc h
      refine lv_iconst (v := Int32.ofInt (0)) hx hb dX8_factor_28 rfl ?_
      refine lv_goto (tgt := 38) hx hb dX8_factor_29 (by decide) ?_
      cases h
      exact kj _ _ _ (lv_sub hl [] rfl) hw
  clear h
  replace h := j6
  clear j6
  replace h := bnd h
  obtain ⟨_, hg, h⟩ := h
  refine o_if_lt (tgt := 13) hx hb hg dX8_factor_2 (by decide) (fun hc => ?_) (fun hc => ?_)
  · replace h := ite_t hc h
    refine lv_iconst (v := Int32.ofInt (1)) hx hb dX8_factor_13 rfl ?_
    refine lv_goto (tgt := 18) hx hb dX8_factor_14 (by decide) ?_
    cases h
    exact kj _ _ _ (lv_sub hl [0, 1] rfl) hw
  · replace h := ite_f hc h
    refine lv_iload_n hx hb dX8_factor_5 rfl (lv_at hl 1 rfl) ?_
    refine lv_aload_n hx hb dX8_factor_6 rfl (lv_at hl 0 rfl) ?_
    refine m_get (k := 36) (C := RX8) (T := TX8) (N := 18) (ref := "LiftFactorsModel") (v := .int (Int32.ofInt (M.2 36 4))) hx hb hi hts inX8_u hown hw (by decide) rfl 4 (by decide) q_202 rfl rfl dX8_factor_7 ?_
    replace h := bnd h
    obtain ⟨_, hg, h⟩ := h
    refine o_icmp_lt (tgt := 17) hx hb hg dX8_factor_10 (by decide) (fun hc => ?_) (fun hc => ?_)
    · replace h := ite_t hc h
      refine lv_iconst (v := Int32.ofInt (0)) hx hb dX8_factor_17 rfl ?_
      cases h
      exact kj _ _ _ (lv_sub hl [0, 1] rfl) hw
    · replace h := ite_f hc h
      refine lv_iconst (v := Int32.ofInt (1)) hx hb dX8_factor_13 rfl ?_
      refine lv_goto (tgt := 18) hx hb dX8_factor_14 (by decide) ?_
      cases h
      exact kj _ _ _ (lv_sub hl [0, 1] rfl) hw
theorem cc_X8_factor {l : Launch} {G : gG} {adr : Nat → Nat} {sz : Nat} (hi : adi adr) {a0 : Int} {M M' : MI} {r : Int} (h : f_X8_factor a0 M = some (r, M')) : mI l yX8_factor cX8_factor 2 (some .int) { frames := 0, cells := 0, slots := 0, locals := 0 } G adr [.ref (adr 36), .int (Int32.ofInt a0)] (tm M) sz (Int32.ofInt r) (tm M') := by
  refine wEnter (by decide) (Nat.le_of_ble_eq_true rfl) ?_
  intro p e s m below meth c ls cx hinit hl hsz hw
  exact b_X8_factor cx hi h (fun pc ls H locs hd hw => w_iret (post := fun (r9 : Int32) (u : Mem) => r9 = Int32.ofInt r ∧ u = tm M') (lf := fun u => (LL adr, wf G adr u)) cx.1 cx.2.1 cx.2.2.1 cx.2.2.2.2.2.2 (tm M') hw ⟨rfl, rfl⟩ hd) hl hw
def f_X8_multiplicity (a0 : Int) (M : MI) : Option (Int × MI) :=
  Option.bind (
    Option.bind (gI a0 0) fun _ =>
    if a0 < 0 then
      some (1)
    else
      Option.bind (gI a0 (M.2 36 4)) fun _ =>
      if a0 < (M.2 36 4) then
        some (0)
      else
        some (1)) fun v1 =>
  Option.bind (opI M 36 3 v1) fun v2 =>
  Option.bind (
    Option.bind (gI (v2.2 36 3) 0) fun _ =>
    if (v2.2 36 3) = 0 then
      Option.bind (odI v2 40 a0) fun v3 =>
      some v3
    else
      some (0)) fun v4 =>
  some (v4, v2)
set_option maxRecDepth 100000 in
set_option maxHeartbeats 8000000 in
theorem b_X8_multiplicity {p : Program} {l : Launch} {e : Env} {s : State} {m : MethodId} {args : Array Value} {below : List Frame} {meth : Method} {c : Code} {Q : State → Prop} {G : gG} {A : Nat → Prop} {adr : Nat → Nat} (cx : cX p s m args meth c cX8_multiplicity (some .int) 2 yX8_multiplicity.cls) (hi : adi adr) {a0 : Int} {M M' : MI} {r : Int} 
    (h : f_X8_multiplicity a0 M = some (r, M'))
    (kr : ∀ (pc : Nat) (ls : Array Slot) (H : Heap) (locs : List Loc), decode cX8_multiplicity pc = .ok (.ireturn, 1) → wH G A s.heap s (LL adr) (wf G adr (tm M')) H locs → W p l e { frames := 0, cells := 0, slots := 0, locals := 0 } s m args below meth c H locs 0 0 Q (F0 m pc ls [.int (Int32.ofInt r)]))
    {ls : Array Slot} {H : Heap} {locs : List Loc} (hl : lv_has ls 2 [(0, .ref (adr 36)), (1, .int (Int32.ofInt a0))]) (hw : wH G A s.heap s (LL adr) (wf G adr (tm M)) H locs) : W p l e { frames := 0, cells := 0, slots := 0, locals := 0 } s m args below meth c H locs 0 0 Q (F0 m 0 ls []) := by
  obtain ⟨hx, hb, -, -, hown, hts, -⟩ := id cx
  have hown : s.vm.findClass RX8 = some m.cls := hown
  unfold f_X8_multiplicity at h
  refine lv_aload_n hx hb dX8_multiplicity_0 rfl (lv_at hl 0 rfl) ?_
  refine lv_iload_n hx hb dX8_multiplicity_1 rfl (lv_at hl 1 rfl) ?_
  replace h := bnd h
  obtain ⟨v1, j6, h⟩ := h
  have kj : ∀ (ls : Array Slot) (H : Heap) (locs : List Loc), lv_has ls 2 [(0, .ref (adr 36)), (1, .int (Int32.ofInt a0))] → wH G A s.heap s (LL adr) (wf G adr (tm M)) H locs → W p l e { frames := 0, cells := 0, slots := 0, locals := 0 } s m args below meth c H locs 0 0 Q (F0 m 18 ls [.int (Int32.ofInt v1), .ref (adr 36)]) := by
    intro ls H locs hl hw
    replace h := bnd h
    obtain ⟨v2, e2, h⟩ := h
    refine o_putI (k := 36) (C := RX8) (T := TX8) (N := 18) (ref := "LiftFactorsModel") hx hb hi hts inX8_u tyX8 tyX8_ok nmX8 hown hw (by decide) rfl 3 (by decide) q_171 rfl rfl e2 (by decide +kernel) rfl dX8_multiplicity_18 (fun H locs hw => ?_)
    refine lv_aload_n hx hb dX8_multiplicity_21 rfl (lv_at hl 0 rfl) ?_
    refine m_get (k := 36) (C := RX8) (T := TX8) (N := 18) (ref := "LiftFactorsModel") (v := .int (Int32.ofInt (v2.2 36 3))) hx hb hi hts inX8_u hown hw (by decide) rfl 3 (by decide) q_171 rfl rfl dX8_multiplicity_22 ?_
    replace h := bnd h
    obtain ⟨v4, j5, h⟩ := h
    have kj : ∀ (ls : Array Slot) (H : Heap) (locs : List Loc), lv_has ls 2 [] → wH G A s.heap s (LL adr) (wf G adr (tm v2)) H locs → W p l e { frames := 0, cells := 0, slots := 0, locals := 0 } s m args below meth c H locs 0 0 Q (F0 m 38 ls [.int (Int32.ofInt v4)]) := by
      intro ls H locs hl hw
      cases h
      exact kr _ _ _ _ dX8_multiplicity_38 hw
    clear h
    replace h := j5
    clear j5
    replace h := bnd h
    obtain ⟨_, hg, h⟩ := h
    refine o_if_eq (tgt := 32) hx hb hg dX8_multiplicity_25 (by decide) (fun hc => ?_) (fun hc => ?_)
    · replace h := ite_t hc h
      refine lv_aload_n hx hb dX8_multiplicity_32 rfl (lv_at hl 0 rfl) ?_
      refine m_get (k := 36) (C := RX8) (T := TX8) (N := 18) (ref := "LiftFactorsModel") (v := .ref (adr 40)) hx hb hi hts inX8_u hown hw (by decide) rfl 6 (by decide) q_209 rfl rfl dX8_multiplicity_33 ?_
      refine lv_iload_n hx hb dX8_multiplicity_36 rfl (lv_at hl 1 rfl) ?_
      replace h := bnd h
      obtain ⟨v3, e3, h⟩ := h
      refine o_iald hx hb hi hw e3 dX8_multiplicity_37 ?_
      cases h
      exact kj _ _ _ (lv_sub hl [] rfl) hw
    · replace h := ite_f hc h
      refine lv_iconst (v := Int32.ofInt (0)) hx hb dX8_multiplicity_28 rfl ?_
      refine lv_goto (tgt := 38) hx hb dX8_multiplicity_29 (by decide) ?_
      cases h
      exact kj _ _ _ (lv_sub hl [] rfl) hw
  clear h
  replace h := j6
  clear j6
  replace h := bnd h
  obtain ⟨_, hg, h⟩ := h
  refine o_if_lt (tgt := 13) hx hb hg dX8_multiplicity_2 (by decide) (fun hc => ?_) (fun hc => ?_)
  · replace h := ite_t hc h
    refine lv_iconst (v := Int32.ofInt (1)) hx hb dX8_multiplicity_13 rfl ?_
    refine lv_goto (tgt := 18) hx hb dX8_multiplicity_14 (by decide) ?_
    cases h
    exact kj _ _ _ (lv_sub hl [0, 1] rfl) hw
  · replace h := ite_f hc h
    refine lv_iload_n hx hb dX8_multiplicity_5 rfl (lv_at hl 1 rfl) ?_
    refine lv_aload_n hx hb dX8_multiplicity_6 rfl (lv_at hl 0 rfl) ?_
    refine m_get (k := 36) (C := RX8) (T := TX8) (N := 18) (ref := "LiftFactorsModel") (v := .int (Int32.ofInt (M.2 36 4))) hx hb hi hts inX8_u hown hw (by decide) rfl 4 (by decide) q_202 rfl rfl dX8_multiplicity_7 ?_
    replace h := bnd h
    obtain ⟨_, hg, h⟩ := h
    refine o_icmp_lt (tgt := 17) hx hb hg dX8_multiplicity_10 (by decide) (fun hc => ?_) (fun hc => ?_)
    · replace h := ite_t hc h
      refine lv_iconst (v := Int32.ofInt (0)) hx hb dX8_multiplicity_17 rfl ?_
      cases h
      exact kj _ _ _ (lv_sub hl [0, 1] rfl) hw
    · replace h := ite_f hc h
      refine lv_iconst (v := Int32.ofInt (1)) hx hb dX8_multiplicity_13 rfl ?_
      refine lv_goto (tgt := 18) hx hb dX8_multiplicity_14 (by decide) ?_
      cases h
      exact kj _ _ _ (lv_sub hl [0, 1] rfl) hw
theorem cc_X8_multiplicity {l : Launch} {G : gG} {adr : Nat → Nat} {sz : Nat} (hi : adi adr) {a0 : Int} {M M' : MI} {r : Int} (h : f_X8_multiplicity a0 M = some (r, M')) : mI l yX8_multiplicity cX8_multiplicity 2 (some .int) { frames := 0, cells := 0, slots := 0, locals := 0 } G adr [.ref (adr 36), .int (Int32.ofInt a0)] (tm M) sz (Int32.ofInt r) (tm M') := by
  refine wEnter (by decide) (Nat.le_of_ble_eq_true rfl) ?_
  intro p e s m below meth c ls cx hinit hl hsz hw
  exact b_X8_multiplicity cx hi h (fun pc ls H locs hd hw => w_iret (post := fun (r9 : Int32) (u : Mem) => r9 = Int32.ofInt r ∧ u = tm M') (lf := fun u => (LL adr, wf G adr u)) cx.1 cx.2.1 cx.2.2.1 cx.2.2.2.2.2.2 (tm M') hw ⟨rfl, rfl⟩ hd) hl hw
def f_X8_poly (n : Nat) (M : MI) : Option (Int × MI) :=
  Option.bind (
    Option.bind (gI (M.2 36 2) (80)) fun _ =>
    if (M.2 36 2) = (80) then
      some (1)
    else
      some (0)) fun v1 =>
  Option.bind (opI M 36 3 v1) fun v2 =>
  Option.bind (gI (v2.2 36 3) 0) fun _ =>
  if (v2.2 36 3) = 0 then
    Option.bind (f_X8_constant (11) (0) v2) fun v3 =>
    Option.bind (f_X8_store n (11) v3) fun (v4, M5) =>
    some (v4, M5)
  else
    some ((0), v2)
set_option maxRecDepth 100000 in
set_option maxHeartbeats 8000000 in
theorem b_X8_poly {p : Program} {l : Launch} {e : Env} {s : State} {m : MethodId} {args : Array Value} {below : List Frame} {meth : Method} {c : Code} {Q : State → Prop} {G : gG} {A : Nat → Prop} {adr : Nat → Nat} (cx : cX p s m args meth c cX8_poly (some .int) 1 yX8_poly.cls) (hi : adi adr) {n : Nat} {M M' : MI} {r : Int} 
    (h : f_X8_poly n M = some (r, M'))
    (kr : ∀ (pc : Nat) (ls : Array Slot) (H : Heap) (locs : List Loc), decode cX8_poly pc = .ok (.ireturn, 1) → wH G A s.heap s (LL adr) (wf G adr (tm M')) H locs → W p l e { frames := 2, cells := 0, slots := 0, locals := 44 } s m args below meth c H locs 0 0 Q (F0 m pc ls [.int (Int32.ofInt r)]))
    {ls : Array Slot} {H : Heap} {locs : List Loc} (hl : lv_has ls 1 [(0, .ref (adr 36))]) (hw : wH G A s.heap s (LL adr) (wf G adr (tm M)) H locs) : W p l e { frames := 2, cells := 0, slots := 0, locals := 44 } s m args below meth c H locs 0 0 Q (F0 m 0 ls []) := by
  obtain ⟨hx, hb, -, -, hown, hts, -⟩ := id cx
  have hown : s.vm.findClass RX8 = some m.cls := hown
  unfold f_X8_poly at h
  refine lv_aload_n hx hb dX8_poly_0 rfl (lv_at hl 0 rfl) ?_
  refine lv_aload_n hx hb dX8_poly_1 rfl (lv_at hl 0 rfl) ?_
  refine m_get (k := 36) (C := RX8) (T := TX8) (N := 18) (ref := "LiftFactorsModel") (v := .int (Int32.ofInt (M.2 36 2))) hx hb hi hts inX8_u hown hw (by decide) rfl 2 (by decide) q_16 rfl rfl dX8_poly_2 ?_
  refine lv_bipush (v := Int32.ofInt (80)) hx hb dX8_poly_5 rfl ?_
  replace h := bnd h
  obtain ⟨v1, j6, h⟩ := h
  have kj : ∀ (ls : Array Slot) (H : Heap) (locs : List Loc), lv_has ls 1 [(0, .ref (adr 36))] → wH G A s.heap s (LL adr) (wf G adr (tm M)) H locs → W p l e { frames := 2, cells := 0, slots := 0, locals := 44 } s m args below meth c H locs 0 0 Q (F0 m 15 ls [.int (Int32.ofInt v1), .ref (adr 36)]) := by
    intro ls H locs hl hw
    replace h := bnd h
    obtain ⟨v2, e2, h⟩ := h
    refine o_putI (k := 36) (C := RX8) (T := TX8) (N := 18) (ref := "LiftFactorsModel") hx hb hi hts inX8_u tyX8 tyX8_ok nmX8 hown hw (by decide) rfl 3 (by decide) q_171 rfl rfl e2 (by decide +kernel) rfl dX8_poly_15 (fun H locs hw => ?_)
    refine lv_aload_n hx hb dX8_poly_18 rfl (lv_at hl 0 rfl) ?_
    refine m_get (k := 36) (C := RX8) (T := TX8) (N := 18) (ref := "LiftFactorsModel") (v := .int (Int32.ofInt (v2.2 36 3))) hx hb hi hts inX8_u hown hw (by decide) rfl 3 (by decide) q_171 rfl rfl dX8_poly_19 ?_
    replace h := bnd h
    obtain ⟨_, hg, h⟩ := h
    refine o_if_eq (tgt := 27) hx hb hg dX8_poly_22 (by decide) (fun hc => ?_) (fun hc => ?_)
    · replace h := ite_t hc h
      refine lv_aload_n hx hb dX8_poly_27 rfl (lv_at hl 0 rfl) ?_
      refine lv_bipush (v := Int32.ofInt (11)) hx hb dX8_poly_28 rfl ?_
      refine lv_lconst (v := Int64.ofInt (0)) hx hb dX8_poly_30 (by decide) ?_
      replace h := bnd h
      obtain ⟨v3, e3, h⟩ := h
      refine m_callVv (k := 36) (As := [.int (Int32.ofInt (11)), .long (Int64.ofInt (0))]) (rest := []) cx.fix hi hw (cc_X8_constant (l := l) (G := G) (sz := H.size) hi e3) (by decide) rfl rfl (w_cV 2 hts q_47 q_48 q_49 q_50 q_51 rfl rfl (by decide) (by decide)) hl.1 rfl (lv_room (Nat.le_of_ble_eq_true rfl)) dX8_poly_31 (fun H locs hw => ?_)
      refine lv_aload_n hx hb dX8_poly_34 rfl (lv_at hl 0 rfl) ?_
      refine lv_bipush (v := Int32.ofInt (11)) hx hb dX8_poly_35 rfl ?_
      replace h := bnd h
      obtain ⟨⟨v4, M5⟩, e4, h⟩ := h
      refine m_callVi (k := 36) (As := [.int (Int32.ofInt (11))]) (rest := []) cx.fix hi hw (cc_X8_store (l := l) (G := G) (sz := H.size) hi e4) (by decide) rfl rfl (w_cV 1 hts q_204 q_205 q_206 q_207 q_208 rfl rfl (by decide) (by decide)) hl.1 rfl (lv_room (Nat.le_of_ble_eq_true rfl)) dX8_poly_37 (fun H locs hw => ?_)
      cases h
      exact kr _ _ _ _ dX8_poly_40 hw
    · replace h := ite_f hc h
      refine lv_iconst (v := Int32.ofInt (0)) hx hb dX8_poly_25 rfl ?_
      cases h
      exact kr _ _ _ _ dX8_poly_26 hw
  clear h
  replace h := j6
  clear j6
  replace h := bnd h
  obtain ⟨_, hg, h⟩ := h
  refine o_icmp_ne (tgt := 14) hx hb hg dX8_poly_7 (by decide) (fun hc => ?_) (fun hc => ?_)
  · replace h := ite_f hc h
    refine lv_iconst (v := Int32.ofInt (0)) hx hb dX8_poly_14 rfl ?_
    cases h
    exact kj _ _ _ (lv_sub hl [0] rfl) hw
  · replace h := ite_t hc h
    refine lv_iconst (v := Int32.ofInt (1)) hx hb dX8_poly_10 rfl ?_
    refine lv_goto (tgt := 15) hx hb dX8_poly_11 (by decide) ?_
    cases h
    exact kj _ _ _ (lv_sub hl [0] rfl) hw
theorem cc_X8_poly {l : Launch} {G : gG} {adr : Nat → Nat} {sz : Nat} (hi : adi adr) {n : Nat} {M M' : MI} {r : Int} (h : f_X8_poly n M = some (r, M')) : mI l yX8_poly cX8_poly 1 (some .int) { frames := 2, cells := 0, slots := 0, locals := 44 } G adr [.ref (adr 36)] (tm M) sz (Int32.ofInt r) (tm M') := by
  refine wEnter (by decide) (Nat.le_of_ble_eq_true rfl) ?_
  intro p e s m below meth c ls cx hinit hl hsz hw
  exact b_X8_poly cx hi h (fun pc ls H locs hd hw => w_iret (post := fun (r9 : Int32) (u : Mem) => r9 = Int32.ofInt r ∧ u = tm M') (lf := fun u => (LL adr, wf G adr u)) cx.1 cx.2.1 cx.2.2.1 cx.2.2.2.2.2.2 (tm M') hw ⟨rfl, rfl⟩ hd) hl hw
