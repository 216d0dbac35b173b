theorem q_691 : Cond.methodLink RL 72 yL_poly ∈ uU := uU_in (by decide +kernel) (by decide +kernel)
theorem q_692 : Cond.static yL_poly ∈ uU := uU_in (by decide +kernel) (by decide +kernel)
theorem q_693 : Cond.initialized yL_poly.cls ∈ uU := uU_in (by decide +kernel) (by decide +kernel)
theorem q_694 : Cond.codeWith yL_poly cL_poly 3 (some .int) [(0, 8, 11, 13)] ∈ uU := uU_in (by decide +kernel) (by decide +kernel)
theorem q_695 : Cond.methodLink RL 77 yX8_poly ∈ uU := uU_in (by decide +kernel) (by decide +kernel)
theorem q_696 : Cond.instanceMethod yX8_poly ∈ uU := uU_in (by decide +kernel) (by decide +kernel)
theorem q_697 : Cond.selects yX8_poly.cls yX8_poly yX8_poly ∈ uU := uU_in (by decide +kernel) (by decide +kernel)
theorem q_698 : Cond.initialized yX8_poly.cls ∈ uU := uU_in (by decide +kernel) (by decide +kernel)
theorem q_699 : Cond.code yX8_poly cX8_poly 1 (some .int) ∈ uU := uU_in (by decide +kernel) (by decide +kernel)
theorem q_700 : Cond.methodLink RL 78 yX8_thrown ∈ uU := uU_in (by decide +kernel) (by decide +kernel)
theorem q_701 : Cond.instanceMethod yX8_thrown ∈ uU := uU_in (by decide +kernel) (by decide +kernel)
theorem q_702 : Cond.selects yX8_thrown.cls yX8_thrown yX8_thrown ∈ uU := uU_in (by decide +kernel) (by decide +kernel)
theorem q_703 : Cond.initialized yX8_thrown.cls ∈ uU := uU_in (by decide +kernel) (by decide +kernel)
theorem q_704 : Cond.code yX8_thrown cX8_thrown 1 (some .int) ∈ uU := uU_in (by decide +kernel) (by decide +kernel)
def lc_0 (n : Nat) (x1 x2 x3 : Int) (M : MI) : Option MI :=
  Option.bind (fL_poly n M) fun (v1, M2) =>
  Option.bind (f_X8_poly n M2) fun (v3, M4) =>
  Option.bind (f_X8_thrown M4) fun v5 =>
  Option.bind (gI v5 v1) fun _ =>
  if v5 = v1 then
    Option.bind (gI v1 0) fun _ =>
    if v1 = 0 then
      Option.bind (odJ M4 48 (0)) fun v6 =>
      Option.bind (gI v3 0) fun v7 =>
      Option.bind (gJ v6 v3) fun _ =>
      if v6 = v3 then
        some M4
      else
        none
    else
      some M4
  else
    none
set_option maxRecDepth 100000 in
set_option maxHeartbeats 8000000 in
theorem lb_0 {p : Program} {l : Launch} {e : Env} {s : State} {m : MethodId} {below : List Frame} {meth : Method} {c : Code} {b L9 : Nat} {xs : Nat → Int32} {G : gG} {A : Nat → Prop} {adr : Nat → Nat} {cells slots : Nat} {i9 x1 x2 x3 : Int} {n : Nat} {M M9 : MI} (hl0 : l.stackTraces = false) (hx : p.tables.exec = Jvm.exec) (hb : c.code = cL_law) (hml : c.maxLocals = 7) (hown : s.vm.findClass RL = some m.cls) (hts : ∀ w ∈ uU, w.before #[Value.ref b] s = true) (hXs : va_X b L9 xs s s.heap) (hbl : b < s.heap.size) (hbA : ¬ A b) (hL9 : L9 ≤ 2048) (hY : tY A s s.heap) (hi : adi adr) (hc9 : cells + 8 ≤ room_1.cells) (hs9 : slots + 48 ≤ room_1.slots) (h09 : 0 ≤ i9) (h19 : i9 + 4 ≤ L9) (hx1 : xs (i9 + 1).toNat = Int32.ofInt x1) (hx2 : xs (i9 + 2).toNat = Int32.ofInt x2) (hx3 : xs (i9 + 3).toNat = Int32.ofInt x3) (h : lc_0 n x1 x2 x3 M = some M9)
    (kn : ∀ (ls : Array Slot) (H : Heap) (locs : List Loc), lv_has ls 7 [(4, .int (Int32.ofInt (i9 + 4))), (3, .ref (adr 48)), (2, .ref (adr 36)), (1, .ref (adr 0)), (0, .ref b)] → wH G A s.heap s (LL adr) (wf G adr (tm M9)) H locs → W p l e room_1 s m #[Value.ref b] below meth c H locs (cells + 1) (slots + 6) (lw_Z below #[Value.ref b] s) (F0 m 23 ls []))
    {ls : Array Slot} {H : Heap} {locs : List Loc} (hl : lv_has ls 7 [(4, .int (Int32.ofInt i9)), (3, .ref (adr 48)), (2, .ref (adr 36)), (1, .ref (adr 0)), (0, .ref b)]) (hw : wH G A s.heap s (LL adr) (wf G adr (tm M)) H locs) : W p l e room_1 s m #[Value.ref b] below meth c H locs cells slots (lw_Z below #[Value.ref b] s) (F0 m 116 ls []) := by
  have fx : CallFix p m c cL_law 7 s #[Value.ref b] uU RL := ⟨hx, hb, hml, hown, hts⟩
  unfold lc_0 at h
  refine lv_aload_n hx hb dL_law_116 rfl (lv_at hl 3 rfl) ?_
  refine lv_aload_n hx hb dL_law_117 rfl (lv_at hl 1 rfl) ?_
  replace h := bnd h
  obtain ⟨⟨v1, M2⟩, e1, h⟩ := h
  refine hy_callSi (c1 := cells + 1) (s1 := slots + 6) (As := [.ref (adr 0), .ref (adr 48)]) (rest := []) fx hY hw (cc_L_poly (l := l) (G := G) hl0 hi e1) (h_cS 2 hts q_691 q_692 q_693 q_694 rfl rfl (by decide) (by decide)) hl.1 rfl (lv_room (Nat.le_of_ble_eq_true rfl)) dL_law_118 ⟨by omega, by omega⟩ rfl rfl (fun H locs hw => ?_)
  refine lv_istore (lv' := [(5, .int (Int32.ofInt v1)), (4, .int (Int32.ofInt i9)), (3, .ref (adr 48)), (2, .ref (adr 36)), (1, .ref (adr 0)), (0, .ref b)]) hx hb dL_law_121 hl (by decide) rfl (fun ls hl => ?_)
  refine lv_aload_n hx hb dL_law_123 rfl (lv_at hl 3 rfl) ?_
  replace h := bnd h
  obtain ⟨⟨v3, M4⟩, e3, h⟩ := h
  refine n_callVi (k := 36) (As := []) (rest := []) fx hi hw (cc_X8_poly (l := l) (G := G) (sz := H.size) hi e3) (by decide) rfl rfl (w_cV 0 hts q_695 q_696 q_697 q_698 q_699 rfl rfl (by decide) (by decide)) ⟨by omega, by omega⟩ hl.1 rfl (lv_room (Nat.le_of_ble_eq_true rfl)) dL_law_124 (fun H locs hw => ?_)
  refine lv_istore (lv' := [(6, .int (Int32.ofInt v3)), (5, .int (Int32.ofInt v1)), (4, .int (Int32.ofInt i9)), (3, .ref (adr 48)), (2, .ref (adr 36)), (1, .ref (adr 0)), (0, .ref b)]) hx hb dL_law_127 hl (by decide) rfl (fun ls hl => ?_)
  refine lv_aload_n hx hb dL_law_129 rfl (lv_at hl 4 rfl) ?_
  replace h := bnd h
  obtain ⟨v5, e5, h⟩ := h
  refine n_callVi (k := 36) (As := []) (rest := []) fx hi hw (cc_X8_thrown (l := l) (G := G) (sz := H.size) hi e5) (by decide) rfl rfl (w_cV 0 hts q_700 q_701 q_702 q_703 q_704 rfl rfl (by decide) (by decide)) ⟨by omega, by omega⟩ hl.1 rfl (lv_room (Nat.le_of_ble_eq_true rfl)) dL_law_130 (fun H locs hw => ?_)
  refine lv_iload hx hb dL_law_133 (lv_at hl 1 rfl) ?_
  replace h := bnd h
  obtain ⟨_, hg, h⟩ := h
  refine o_icmp_eq (tgt := 140) hx hb hg dL_law_135 (by decide) (fun hc => ?_) (fun hc => ?_)
  · replace h := ite_t hc h
    refine lv_iload hx hb dL_law_140 (lv_at hl 1 rfl) ?_
    replace h := bnd h
    obtain ⟨_, hg, h⟩ := h
    refine o_if_ne (tgt := 157) hx hb hg dL_law_142 (by decide) (fun hc => ?_) (fun hc => ?_)
    · replace h := ite_f hc h
      refine lv_goto (tgt := 1103) hx hb dL_law_157 (by decide) ?_
      refine lv_iinc (v := Int32.ofInt (i9 + 4)) (lv' := [(4, .int (Int32.ofInt (i9 + 4))), (6, .int (Int32.ofInt v3)), (5, .int (Int32.ofInt v1)), (3, .ref (adr 48)), (2, .ref (adr 36)), (1, .ref (adr 0)), (0, .ref b)]) hx hb dL_law_1103 hl (k := 2) rfl (inc_o _ _) (by decide) rfl (fun ls hl => ?_)
      refine lv_goto (tgt := 23) hx hb dL_law_1106 (by decide) ?_
      cases h
      exact kn _ _ _ (lv_sub hl [0, 3, 4, 5, 6] rfl) hw
    · replace h := ite_t hc h
      refine lv_aload_n hx hb dL_law_145 rfl (lv_at hl 3 rfl) ?_
      refine lv_iconst (v := Int32.ofInt (0)) hx hb dL_law_146 rfl ?_
      replace h := bnd h
      obtain ⟨v6, e6, h⟩ := h
      refine o_lald hx hb hi hw e6 dL_law_147 ?_
      refine lv_iload hx hb dL_law_148 (lv_at hl 0 rfl) ?_
      replace h := bnd h
      obtain ⟨v7, e7, h⟩ := h
      refine o_i2l hx hb e7 dL_law_150 ?_
      replace h := bnd h
      obtain ⟨_, hg, h⟩ := h
      refine o_lcmp_eq (tgt := 157) hx hb hg dL_law_151 dL_law_152 (by decide) (fun hc => ?_) (fun hc => ?_)
      · replace h := ite_t hc h
        refine lv_goto (tgt := 1103) hx hb dL_law_157 (by decide) ?_
        refine lv_iinc (v := Int32.ofInt (i9 + 4)) (lv' := [(4, .int (Int32.ofInt (i9 + 4))), (6, .int (Int32.ofInt v3)), (5, .int (Int32.ofInt v1)), (3, .ref (adr 48)), (2, .ref (adr 36)), (1, .ref (adr 0)), (0, .ref b)]) hx hb dL_law_1103 hl (k := 2) rfl (inc_o _ _) (by decide) rfl (fun ls hl => ?_)
        refine lv_goto (tgt := 23) hx hb dL_law_1106 (by decide) ?_
        cases h
        exact kn _ _ _ (lv_sub hl [0, 3, 4, 5, 6] rfl) hw
      · replace h := ite_f hc h
        refine lv_iconst (v := Int32.ofInt (0)) hx hb dL_law_155 rfl ?_
        cases h
  · replace h := ite_f hc h
    refine lv_iconst (v := Int32.ofInt (0)) hx hb dL_law_138 rfl ?_
    cases h
theorem q_705 : Cond.methodLink RL 81 yL_set ∈ uU := uU_in (by decide +kernel) (by decide +kernel)
theorem q_706 : Cond.static yL_set ∈ uU := uU_in (by decide +kernel) (by decide +kernel)
theorem q_707 : Cond.initialized yL_set.cls ∈ uU := uU_in (by decide +kernel) (by decide +kernel)
theorem q_708 : Cond.codeWith yL_set cL_set 6 (some .int) [(0, 19, 22, 19), (0, 19, 26, 21)] ∈ uU := uU_in (by decide +kernel) (by decide +kernel)
theorem q_709 : Cond.methodLink RL 84 yX8_set ∈ uU := uU_in (by decide +kernel) (by decide +kernel)
theorem q_710 : Cond.instanceMethod yX8_set ∈ uU := uU_in (by decide +kernel) (by decide +kernel)
theorem q_711 : Cond.selects yX8_set.cls yX8_set yX8_set ∈ uU := uU_in (by decide +kernel) (by decide +kernel)
theorem q_712 : Cond.initialized yX8_set.cls ∈ uU := uU_in (by decide +kernel) (by decide +kernel)
theorem q_713 : Cond.code yX8_set cX8_set 5 (some .boolean) ∈ uU := uU_in (by decide +kernel) (by decide +kernel)
def lc_1 (n : Nat) (x1 x2 x3 : Int) (M : MI) : Option MI :=
  Option.bind (fL_set x1 x2 x3 M) fun (v1, M2) =>
  Option.bind (f_X8_set x1 x2 x3 M2) fun (v3, M4) =>
  Option.bind (f_X8_thrown M4) fun v5 =>
  Option.bind (gI v5 v1) fun _ =>
  if v5 = v1 then
    Option.bind (gI v1 0) fun _ =>
    if v1 = 0 then
      Option.bind (odJ M4 48 (0)) fun v6 =>
      Option.bind (
        Option.bind (gI v3 0) fun _ =>
        if v3 = 0 then
          some (0)
        else
          some (1)) fun v7 =>
      Option.bind (gJ v6 v7) fun _ =>
      if v6 = v7 then
        some M4
      else
        none
    else
      some M4
  else
    none
set_option maxRecDepth 100000 in
set_option maxHeartbeats 8000000 in
theorem lb_1 {p : Program} {l : Launch} {e : Env} {s : State} {m : MethodId} {below : List Frame} {meth : Method} {c : Code} {b L9 : Nat} {xs : Nat → Int32} {G : gG} {A : Nat → Prop} {adr : Nat → Nat} {cells slots : Nat} {i9 x1 x2 x3 : Int} {n : Nat} {M M9 : MI} (hl0 : l.stackTraces = false) (hx : p.tables.exec = Jvm.exec) (hb : c.code = cL_law) (hml : c.maxLocals = 7) (hown : s.vm.findClass RL = some m.cls) (hts : ∀ w ∈ uU, w.before #[Value.ref b] s = true) (hXs : va_X b L9 xs s s.heap) (hbl : b < s.heap.size) (hbA : ¬ A b) (hL9 : L9 ≤ 2048) (hY : tY A s s.heap) (hi : adi adr) (hc9 : cells + 8 ≤ room_1.cells) (hs9 : slots + 48 ≤ room_1.slots) (h09 : 0 ≤ i9) (h19 : i9 + 4 ≤ L9) (hx1 : xs (i9 + 1).toNat = Int32.ofInt x1) (hx2 : xs (i9 + 2).toNat = Int32.ofInt x2) (hx3 : xs (i9 + 3).toNat = Int32.ofInt x3) (h : lc_1 n x1 x2 x3 M = some M9)
    (kn : ∀ (ls : Array Slot) (H : Heap) (locs : List Loc), lv_has ls 7 [(4, .int (Int32.ofInt (i9 + 4))), (3, .ref (adr 48)), (2, .ref (adr 36)), (1, .ref (adr 0)), (0, .ref b)] → wH G A s.heap s (LL adr) (wf G adr (tm M9)) H locs → W p l e room_1 s m #[Value.ref b] below meth c H locs (cells + 3) (slots + 18) (lw_Z below #[Value.ref b] s) (F0 m 23 ls []))
    {ls : Array Slot} {H : Heap} {locs : List Loc} (hl : lv_has ls 7 [(4, .int (Int32.ofInt i9)), (3, .ref (adr 48)), (2, .ref (adr 36)), (1, .ref (adr 0)), (0, .ref b)]) (hw : wH G A s.heap s (LL adr) (wf G adr (tm M)) H locs) : W p l e room_1 s m #[Value.ref b] below meth c H locs cells slots (lw_Z below #[Value.ref b] s) (F0 m 160 ls []) := by
  have fx : CallFix p m c cL_law 7 s #[Value.ref b] uU RL := ⟨hx, hb, hml, hown, hts⟩
  unfold lc_1 at h
  refine lv_aload_n hx hb dL_law_160 rfl (lv_at hl 3 rfl) ?_
  refine lv_aload_n hx hb dL_law_161 rfl (lv_at hl 4 rfl) ?_
  refine lv_iload hx hb dL_law_162 (lv_at hl 0 rfl) ?_
  refine lv_iconst (v := Int32.ofInt (1)) hx hb dL_law_164 rfl ?_
  refine o_iadd hx hb dL_law_165 ?_
  refine o_sld (x := x1) hx hb hXs hbl hbA hw hL9 (by omega) (by omega) hx1 dL_law_166 ?_
  refine lv_aload_n hx hb dL_law_167 rfl (lv_at hl 4 rfl) ?_
  refine lv_iload hx hb dL_law_168 (lv_at hl 0 rfl) ?_
  refine lv_iconst (v := Int32.ofInt (2)) hx hb dL_law_170 rfl ?_
  refine o_iadd hx hb dL_law_171 ?_
  refine o_sld (x := x2) hx hb hXs hbl hbA hw hL9 (by omega) (by omega) hx2 dL_law_172 ?_
  refine lv_aload_n hx hb dL_law_173 rfl (lv_at hl 4 rfl) ?_
  refine lv_iload hx hb dL_law_174 (lv_at hl 0 rfl) ?_
  refine lv_iconst (v := Int32.ofInt (3)) hx hb dL_law_176 rfl ?_
  refine o_iadd hx hb dL_law_177 ?_
  refine o_sld (x := x3) hx hb hXs hbl hbA hw hL9 (by omega) (by omega) hx3 dL_law_178 ?_
  refine lv_aload_n hx hb dL_law_179 rfl (lv_at hl 1 rfl) ?_
  replace h := bnd h
  obtain ⟨⟨v1, M2⟩, e1, h⟩ := h
  refine hy_callSi (c1 := cells + 3) (s1 := slots + 18) (As := [.ref (adr 0), .int (Int32.ofInt x1), .int (Int32.ofInt x2), .int (Int32.ofInt x3), .ref (adr 48)]) (rest := []) fx hY hw (cc_L_set (l := l) (G := G) hl0 hi e1) (h_cS 5 hts q_705 q_706 q_707 q_708 rfl rfl (by decide) (by decide)) hl.1 rfl (lv_room (Nat.le_of_ble_eq_true rfl)) dL_law_180 ⟨by omega, by omega⟩ rfl rfl (fun H locs hw => ?_)
  refine lv_istore (lv' := [(5, .int (Int32.ofInt v1)), (4, .int (Int32.ofInt i9)), (3, .ref (adr 48)), (2, .ref (adr 36)), (1, .ref (adr 0)), (0, .ref b)]) hx hb dL_law_183 hl (by decide) rfl (fun ls hl => ?_)
  refine lv_aload_n hx hb dL_law_185 rfl (lv_at hl 3 rfl) ?_
  refine lv_aload_n hx hb dL_law_186 rfl (lv_at hl 5 rfl) ?_
  refine lv_iload hx hb dL_law_187 (lv_at hl 1 rfl) ?_
  refine lv_iconst (v := Int32.ofInt (1)) hx hb dL_law_189 rfl ?_
  refine o_iadd hx hb dL_law_190 ?_
  refine o_sld (x := x1) hx hb hXs hbl hbA hw hL9 (by omega) (by omega) hx1 dL_law_191 ?_
  refine lv_aload_n hx hb dL_law_192 rfl (lv_at hl 5 rfl) ?_
  refine lv_iload hx hb dL_law_193 (lv_at hl 1 rfl) ?_
  refine lv_iconst (v := Int32.ofInt (2)) hx hb dL_law_195 rfl ?_
  refine o_iadd hx hb dL_law_196 ?_
  refine o_sld (x := x2) hx hb hXs hbl hbA hw hL9 (by omega) (by omega) hx2 dL_law_197 ?_
  refine lv_aload_n hx hb dL_law_198 rfl (lv_at hl 5 rfl) ?_
  refine lv_iload hx hb dL_law_199 (lv_at hl 1 rfl) ?_
  refine lv_iconst (v := Int32.ofInt (3)) hx hb dL_law_201 rfl ?_
  refine o_iadd hx hb dL_law_202 ?_
  refine o_sld (x := x3) hx hb hXs hbl hbA hw hL9 (by omega) (by omega) hx3 dL_law_203 ?_
  replace h := bnd h
  obtain ⟨⟨v3, M4⟩, e3, h⟩ := h
  refine n_callVi (k := 36) (As := [.int (Int32.ofInt x1), .int (Int32.ofInt x2), .int (Int32.ofInt x3)]) (rest := []) fx hi hw (cc_X8_set (l := l) (G := G) (sz := H.size) hi e3) (by decide) rfl rfl (w_cV 3 hts q_709 q_710 q_711 q_712 q_713 rfl rfl (by decide) (by decide)) ⟨by omega, by omega⟩ hl.1 rfl (lv_room (Nat.le_of_ble_eq_true rfl)) dL_law_204 (fun H locs hw => ?_)
  refine lv_istore (lv' := [(6, .int (Int32.ofInt v3)), (5, .int (Int32.ofInt v1)), (4, .int (Int32.ofInt i9)), (3, .ref (adr 48)), (2, .ref (adr 36)), (1, .ref (adr 0)), (0, .ref b)]) hx hb dL_law_207 hl (by decide) rfl (fun ls hl => ?_)
  refine lv_aload_n hx hb dL_law_209 rfl (lv_at hl 4 rfl) ?_
  replace h := bnd h
  obtain ⟨v5, e5, h⟩ := h
  refine n_callVi (k := 36) (As := []) (rest := []) fx hi hw (cc_X8_thrown (l := l) (G := G) (sz := H.size) hi e5) (by decide) rfl rfl (w_cV 0 hts q_700 q_701 q_702 q_703 q_704 rfl rfl (by decide) (by decide)) ⟨by omega, by omega⟩ hl.1 rfl (lv_room (Nat.le_of_ble_eq_true rfl)) dL_law_210 (fun H locs hw => ?_)
  refine lv_iload hx hb dL_law_213 (lv_at hl 1 rfl) ?_
  replace h := bnd h
  obtain ⟨_, hg, h⟩ := h
  refine o_icmp_eq (tgt := 220) hx hb hg dL_law_215 (by decide) (fun hc => ?_) (fun hc => ?_)
  · replace h := ite_t hc h
    refine lv_iload hx hb dL_law_220 (lv_at hl 1 rfl) ?_
    replace h := bnd h
    obtain ⟨_, hg, h⟩ := h
    refine o_if_ne (tgt := 244) hx hb hg dL_law_222 (by decide) (fun hc => ?_) (fun hc => ?_)
    · replace h := ite_f hc h
      refine lv_goto (tgt := 1103) hx hb dL_law_244 (by decide) ?_
      refine lv_iinc (v := Int32.ofInt (i9 + 4)) (lv' := [(4, .int (Int32.ofInt (i9 + 4))), (6, .int (Int32.ofInt v3)), (5, .int (Int32.ofInt v1)), (3, .ref (adr 48)), (2, .ref (adr 36)), (1, .ref (adr 0)), (0, .ref b)]) hx hb dL_law_1103 hl (k := 2) rfl (inc_o _ _) (by decide) rfl (fun ls hl => ?_)
      refine lv_goto (tgt := 23) hx hb dL_law_1106 (by decide) ?_
      cases h
      exact kn _ _ _ (lv_sub hl [0, 3, 4, 5, 6] rfl) hw
    · replace h := ite_t hc h
      refine lv_aload_n hx hb dL_law_225 rfl (lv_at hl 3 rfl) ?_
      refine lv_iconst (v := Int32.ofInt (0)) hx hb dL_law_226 rfl ?_
      replace h := bnd h
      obtain ⟨v6, e6, h⟩ := h
      refine o_lald hx hb hi hw e6 dL_law_227 ?_
      refine lv_iload hx hb dL_law_228 (lv_at hl 0 rfl) ?_
      replace h := bnd h
      obtain ⟨v7, j8, h⟩ := h
      have kj : ∀ (ls : Array Slot) (H : Heap) (locs : List Loc), lv_has ls 7 [(0, .ref b), (1, .ref (adr 0)), (2, .ref (adr 36)), (3, .ref (adr 48)), (4, .int (Int32.ofInt i9))] → wH G A s.heap s (LL adr) (wf G adr (tm M4)) H locs → W p l e room_1 s m #[Value.ref b] below meth c H locs (cells + 3) (slots + 18) (lw_Z below #[Value.ref b] s) (F0 m 238 ls [.long (Int64.ofInt v7), .long (Int64.ofInt v6)]) := by
        intro ls H locs hl hw
        replace h := bnd h
        obtain ⟨_, hg, h⟩ := h
        refine o_lcmp_eq (tgt := 244) hx hb hg dL_law_238 dL_law_239 (by decide) (fun hc => ?_) (fun hc => ?_)
        · replace h := ite_t hc h
          refine lv_goto (tgt := 1103) hx hb dL_law_244 (by decide) ?_
          refine lv_iinc (v := Int32.ofInt (i9 + 4)) (lv' := [(4, .int (Int32.ofInt (i9 + 4))), (0, .ref b), (1, .ref (adr 0)), (2, .ref (adr 36)), (3, .ref (adr 48))]) hx hb dL_law_1103 hl (k := 4) rfl (inc_o _ _) (by decide) rfl (fun ls hl => ?_)
          refine lv_goto (tgt := 23) hx hb dL_law_1106 (by decide) ?_
          cases h
          exact kn _ _ _ (lv_sub hl [0, 4, 3, 2, 1] rfl) hw
        · replace h := ite_f hc h
          refine lv_iconst (v := Int32.ofInt (0)) hx hb dL_law_242 rfl ?_
          cases h
      clear h
      replace h := j8
      clear j8
      replace h := bnd h
      obtain ⟨_, hg, h⟩ := h
      refine o_if_eq (tgt := 237) hx hb hg dL_law_230 (by decide) (fun hc => ?_) (fun hc => ?_)
      · replace h := ite_t hc h
        refine lv_lconst (v := Int64.ofInt (0)) hx hb dL_law_237 (by decide) ?_
        cases h
        exact kj _ _ _ (lv_sub hl [6, 5, 4, 3, 2] rfl) hw
      · replace h := ite_f hc h
        refine lv_lconst (v := Int64.ofInt (1)) hx hb dL_law_233 (by decide) ?_
        refine lv_goto (tgt := 238) hx hb dL_law_234 (by decide) ?_
        cases h
        exact kj _ _ _ (lv_sub hl [6, 5, 4, 3, 2] rfl) hw
  · replace h := ite_f hc h
    refine lv_iconst (v := Int32.ofInt (0)) hx hb dL_law_218 rfl ?_
    cases h
theorem q_714 : Cond.methodLink RL 85 yL_at ∈ uU := uU_in (by decide +kernel) (by decide +kernel)
theorem q_715 : Cond.static yL_at ∈ uU := uU_in (by decide +kernel) (by decide +kernel)
theorem q_716 : Cond.initialized yL_at.cls ∈ uU := uU_in (by decide +kernel) (by decide +kernel)
theorem q_717 : Cond.codeWith yL_at cL_at 5 (some .int) [(0, 10, 13, 19)] ∈ uU := uU_in (by decide +kernel) (by decide +kernel)
theorem q_718 : Cond.methodLink RL 88 yX8_at ∈ uU := uU_in (by decide +kernel) (by decide +kernel)
theorem q_719 : Cond.instanceMethod yX8_at ∈ uU := uU_in (by decide +kernel) (by decide +kernel)
theorem q_720 : Cond.selects yX8_at.cls yX8_at yX8_at ∈ uU := uU_in (by decide +kernel) (by decide +kernel)
theorem q_721 : Cond.initialized yX8_at.cls ∈ uU := uU_in (by decide +kernel) (by decide +kernel)
theorem q_722 : Cond.code yX8_at cX8_at 3 (some .int) ∈ uU := uU_in (by decide +kernel) (by decide +kernel)
def lc_2 (n : Nat) (x1 x2 x3 : Int) (M : MI) : Option MI :=
  Option.bind (fL_at x1 x2 M) fun (v1, M2) =>
  Option.bind (f_X8_at x1 x2 M2) fun (v3, M4) =>
  Option.bind (f_X8_thrown M4) fun v5 =>
  Option.bind (gI v5 v1) fun _ =>
  if v5 = v1 then
    Option.bind (gI v1 0) fun _ =>
    if v1 = 0 then
      Option.bind (odJ M4 48 (0)) fun v6 =>
      Option.bind (gI v3 0) fun v7 =>
      Option.bind (gJ v6 v3) fun _ =>
      if v6 = v3 then
        some M4
      else
        none
    else
      some M4
  else
    none
set_option maxRecDepth 100000 in
set_option maxHeartbeats 8000000 in
theorem lb_2 {p : Program} {l : Launch} {e : Env} {s : State} {m : MethodId} {below : List Frame} {meth : Method} {c : Code} {b L9 : Nat} {xs : Nat → Int32} {G : gG} {A : Nat → Prop} {adr : Nat → Nat} {cells slots : Nat} {i9 x1 x2 x3 : Int} {n : Nat} {M M9 : MI} (hl0 : l.stackTraces = false) (hx : p.tables.exec = Jvm.exec) (hb : c.code = cL_law) (hml : c.maxLocals = 7) (hown : s.vm.findClass RL = some m.cls) (hts : ∀ w ∈ uU, w.before #[Value.ref b] s = true) (hXs : va_X b L9 xs s s.heap) (hbl : b < s.heap.size) (hbA : ¬ A b) (hL9 : L9 ≤ 2048) (hY : tY A s s.heap) (hi : adi adr) (hc9 : cells + 8 ≤ room_1.cells) (hs9 : slots + 48 ≤ room_1.slots) (h09 : 0 ≤ i9) (h19 : i9 + 4 ≤ L9) (hx1 : xs (i9 + 1).toNat = Int32.ofInt x1) (hx2 : xs (i9 + 2).toNat = Int32.ofInt x2) (hx3 : xs (i9 + 3).toNat = Int32.ofInt x3) (h : lc_2 n x1 x2 x3 M = some M9)
    (kn : ∀ (ls : Array Slot) (H : Heap) (locs : List Loc), lv_has ls 7 [(4, .int (Int32.ofInt (i9 + 4))), (3, .ref (adr 48)), (2, .ref (adr 36)), (1, .ref (adr 0)), (0, .ref b)] → wH G A s.heap s (LL adr) (wf G adr (tm M9)) H locs → W p l e room_1 s m #[Value.ref b] below meth c H locs (cells + 2) (slots + 12) (lw_Z below #[Value.ref b] s) (F0 m 23 ls []))
    {ls : Array Slot} {H : Heap} {locs : List Loc} (hl : lv_has ls 7 [(4, .int (Int32.ofInt i9)), (3, .ref (adr 48)), (2, .ref (adr 36)), (1, .ref (adr 0)), (0, .ref b)]) (hw : wH G A s.heap s (LL adr) (wf G adr (tm M)) H locs) : W p l e room_1 s m #[Value.ref b] below meth c H locs cells slots (lw_Z below #[Value.ref b] s) (F0 m 247 ls []) := by
  have fx : CallFix p m c cL_law 7 s #[Value.ref b] uU RL := ⟨hx, hb, hml, hown, hts⟩
  unfold lc_2 at h
  refine lv_aload_n hx hb dL_law_247 rfl (lv_at hl 3 rfl) ?_
  refine lv_aload_n hx hb dL_law_248 rfl (lv_at hl 4 rfl) ?_
  refine lv_iload hx hb dL_law_249 (lv_at hl 0 rfl) ?_
  refine lv_iconst (v := Int32.ofInt (1)) hx hb dL_law_251 rfl ?_
  refine o_iadd hx hb dL_law_252 ?_
  refine o_sld (x := x1) hx hb hXs hbl hbA hw hL9 (by omega) (by omega) hx1 dL_law_253 ?_
  refine lv_aload_n hx hb dL_law_254 rfl (lv_at hl 4 rfl) ?_
  refine lv_iload hx hb dL_law_255 (lv_at hl 0 rfl) ?_
  refine lv_iconst (v := Int32.ofInt (2)) hx hb dL_law_257 rfl ?_
  refine o_iadd hx hb dL_law_258 ?_
  refine o_sld (x := x2) hx hb hXs hbl hbA hw hL9 (by omega) (by omega) hx2 dL_law_259 ?_
  refine lv_aload_n hx hb dL_law_260 rfl (lv_at hl 1 rfl) ?_
  replace h := bnd h
  obtain ⟨⟨v1, M2⟩, e1, h⟩ := h
  refine hy_callSi (c1 := cells + 2) (s1 := slots + 12) (As := [.ref (adr 0), .int (Int32.ofInt x1), .int (Int32.ofInt x2), .ref (adr 48)]) (rest := []) fx hY hw (cc_L_at (l := l) (G := G) hl0 hi e1) (h_cS 4 hts q_714 q_715 q_716 q_717 rfl rfl (by decide) (by decide)) hl.1 rfl (lv_room (Nat.le_of_ble_eq_true rfl)) dL_law_261 ⟨by omega, by omega⟩ rfl rfl (fun H locs hw => ?_)
  refine lv_istore (lv' := [(5, .int (Int32.ofInt v1)), (4, .int (Int32.ofInt i9)), (3, .ref (adr 48)), (2, .ref (adr 36)), (1, .ref (adr 0)), (0, .ref b)]) hx hb dL_law_264 hl (by decide) rfl (fun ls hl => ?_)
  refine lv_aload_n hx hb dL_law_266 rfl (lv_at hl 3 rfl) ?_
  refine lv_aload_n hx hb dL_law_267 rfl (lv_at hl 5 rfl) ?_
  refine lv_iload hx hb dL_law_268 (lv_at hl 1 rfl) ?_
  refine lv_iconst (v := Int32.ofInt (1)) hx hb dL_law_270 rfl ?_
  refine o_iadd hx hb dL_law_271 ?_
  refine o_sld (x := x1) hx hb hXs hbl hbA hw hL9 (by omega) (by omega) hx1 dL_law_272 ?_
  refine lv_aload_n hx hb dL_law_273 rfl (lv_at hl 5 rfl) ?_
  refine lv_iload hx hb dL_law_274 (lv_at hl 1 rfl) ?_
  refine lv_iconst (v := Int32.ofInt (2)) hx hb dL_law_276 rfl ?_
  refine o_iadd hx hb dL_law_277 ?_
  refine o_sld (x := x2) hx hb hXs hbl hbA hw hL9 (by omega) (by omega) hx2 dL_law_278 ?_
  replace h := bnd h
  obtain ⟨⟨v3, M4⟩, e3, h⟩ := h
  refine n_callVi (k := 36) (As := [.int (Int32.ofInt x1), .int (Int32.ofInt x2)]) (rest := []) fx hi hw (cc_X8_at (l := l) (G := G) (sz := H.size) hi e3) (by decide) rfl rfl (w_cV 2 hts q_718 q_719 q_720 q_721 q_722 rfl rfl (by decide) (by decide)) ⟨by omega, by omega⟩ hl.1 rfl (lv_room (Nat.le_of_ble_eq_true rfl)) dL_law_279 (fun H locs hw => ?_)
  refine lv_istore (lv' := [(6, .int (Int32.ofInt v3)), (5, .int (Int32.ofInt v1)), (4, .int (Int32.ofInt i9)), (3, .ref (adr 48)), (2, .ref (adr 36)), (1, .ref (adr 0)), (0, .ref b)]) hx hb dL_law_282 hl (by decide) rfl (fun ls hl => ?_)
  refine lv_aload_n hx hb dL_law_284 rfl (lv_at hl 4 rfl) ?_
  replace h := bnd h
  obtain ⟨v5, e5, h⟩ := h
  refine n_callVi (k := 36) (As := []) (rest := []) fx hi hw (cc_X8_thrown (l := l) (G := G) (sz := H.size) hi e5) (by decide) rfl rfl (w_cV 0 hts q_700 q_701 q_702 q_703 q_704 rfl rfl (by decide) (by decide)) ⟨by omega, by omega⟩ hl.1 rfl (lv_room (Nat.le_of_ble_eq_true rfl)) dL_law_285 (fun H locs hw => ?_)
  refine lv_iload hx hb dL_law_288 (lv_at hl 1 rfl) ?_
  replace h := bnd h
  obtain ⟨_, hg, h⟩ := h
  refine o_icmp_eq (tgt := 295) hx hb hg dL_law_290 (by decide) (fun hc => ?_) (fun hc => ?_)
  · replace h := ite_t hc h
    refine lv_iload hx hb dL_law_295 (lv_at hl 1 rfl) ?_
    replace h := bnd h
    obtain ⟨_, hg, h⟩ := h
    refine o_if_ne (tgt := 312) hx hb hg dL_law_297 (by decide) (fun hc => ?_) (fun hc => ?_)
    · replace h := ite_f hc h
      refine lv_goto (tgt := 1103) hx hb dL_law_312 (by decide) ?_
      refine lv_iinc (v := Int32.ofInt (i9 + 4)) (lv' := [(4, .int (Int32.ofInt (i9 + 4))), (6, .int (Int32.ofInt v3)), (5, .int (Int32.ofInt v1)), (3, .ref (adr 48)), (2, .ref (adr 36)), (1, .ref (adr 0)), (0, .ref b)]) hx hb dL_law_1103 hl (k := 2) rfl (inc_o _ _) (by decide) rfl (fun ls hl => ?_)
      refine lv_goto (tgt := 23) hx hb dL_law_1106 (by decide) ?_
      cases h
      exact kn _ _ _ (lv_sub hl [0, 3, 4, 5, 6] rfl) hw
    · replace h := ite_t hc h
      refine lv_aload_n hx hb dL_law_300 rfl (lv_at hl 3 rfl) ?_
      refine lv_iconst (v := Int32.ofInt (0)) hx hb dL_law_301 rfl ?_
      replace h := bnd h
      obtain ⟨v6, e6, h⟩ := h
      refine o_lald hx hb hi hw e6 dL_law_302 ?_
      refine lv_iload hx hb dL_law_303 (lv_at hl 0 rfl) ?_
      replace h := bnd h
      obtain ⟨v7, e7, h⟩ := h
      refine o_i2l hx hb e7 dL_law_305 ?_
      replace h := bnd h
      obtain ⟨_, hg, h⟩ := h
      refine o_lcmp_eq (tgt := 312) hx hb hg dL_law_306 dL_law_307 (by decide) (fun hc => ?_) (fun hc => ?_)
      · replace h := ite_t hc h
        refine lv_goto (tgt := 1103) hx hb dL_law_312 (by decide) ?_
        refine lv_iinc (v := Int32.ofInt (i9 + 4)) (lv' := [(4, .int (Int32.ofInt (i9 + 4))), (6, .int (Int32.ofInt v3)), (5, .int (Int32.ofInt v1)), (3, .ref (adr 48)), (2, .ref (adr 36)), (1, .ref (adr 0)), (0, .ref b)]) hx hb dL_law_1103 hl (k := 2) rfl (inc_o _ _) (by decide) rfl (fun ls hl => ?_)
        refine lv_goto (tgt := 23) hx hb dL_law_1106 (by decide) ?_
        cases h
        exact kn _ _ _ (lv_sub hl [0, 3, 4, 5, 6] rfl) hw
      · replace h := ite_f hc h
        refine lv_iconst (v := Int32.ofInt (0)) hx hb dL_law_310 rfl ?_
        cases h
  · replace h := ite_f hc h
    refine lv_iconst (v := Int32.ofInt (0)) hx hb dL_law_293 rfl ?_
    cases h
theorem q_723 : Cond.methodLink RL 89 yL_times ∈ uU := uU_in (by decide +kernel) (by decide +kernel)
theorem q_724 : Cond.static yL_times ∈ uU := uU_in (by decide +kernel) (by decide +kernel)
theorem q_725 : Cond.initialized yL_times.cls ∈ uU := uU_in (by decide +kernel) (by decide +kernel)
theorem q_726 : Cond.codeWith yL_times cL_times 5 (some .int) [(0, 10, 13, 19), (0, 10, 17, 13), (0, 10, 21, 21)] ∈ uU := uU_in (by decide +kernel) (by decide +kernel)
theorem q_727 : Cond.methodLink RL 91 yX8_times ∈ uU := uU_in (by decide +kernel) (by decide +kernel)
theorem q_728 : Cond.instanceMethod yX8_times ∈ uU := uU_in (by decide +kernel) (by decide +kernel)
theorem q_729 : Cond.selects yX8_times.cls yX8_times yX8_times ∈ uU := uU_in (by decide +kernel) (by decide +kernel)
theorem q_730 : Cond.initialized yX8_times.cls ∈ uU := uU_in (by decide +kernel) (by decide +kernel)
theorem q_731 : Cond.code yX8_times cX8_times 6 (some .int) ∈ uU := uU_in (by decide +kernel) (by decide +kernel)
def lc_3 (n : Nat) (x1 x2 x3 : Int) (M : MI) : Option MI :=
  Option.bind (fL_times n x1 x2 M) fun (v1, M2) =>
  Option.bind (f_X8_times n x1 x2 M2) fun (v3, M4) =>
  Option.bind (f_X8_thrown M4) fun v5 =>
  Option.bind (gI v5 v1) fun _ =>
  if v5 = v1 then
    Option.bind (gI v1 0) fun _ =>
    if v1 = 0 then
      Option.bind (odJ M4 48 (0)) fun v6 =>
      Option.bind (gI v3 0) fun v7 =>
      Option.bind (gJ v6 v3) fun _ =>
      if v6 = v3 then
        some M4
      else
        none
    else
      some M4
  else
    none
set_option maxRecDepth 100000 in
set_option maxHeartbeats 8000000 in
theorem lb_3 {p : Program} {l : Launch} {e : Env} {s : State} {m : MethodId} {below : List Frame} {meth : Method} {c : Code} {b L9 : Nat} {xs : Nat → Int32} {G : gG} {A : Nat → Prop} {adr : Nat → Nat} {cells slots : Nat} {i9 x1 x2 x3 : Int} {n : Nat} {M M9 : MI} (hl0 : l.stackTraces = false) (hx : p.tables.exec = Jvm.exec) (hb : c.code = cL_law) (hml : c.maxLocals = 7) (hown : s.vm.findClass RL = some m.cls) (hts : ∀ w ∈ uU, w.before #[Value.ref b] s = true) (hXs : va_X b L9 xs s s.heap) (hbl : b < s.heap.size) (hbA : ¬ A b) (hL9 : L9 ≤ 2048) (hY : tY A s s.heap) (hi : adi adr) (hc9 : cells + 8 ≤ room_1.cells) (hs9 : slots + 48 ≤ room_1.slots) (h09 : 0 ≤ i9) (h19 : i9 + 4 ≤ L9) (hx1 : xs (i9 + 1).toNat = Int32.ofInt x1) (hx2 : xs (i9 + 2).toNat = Int32.ofInt x2) (hx3 : xs (i9 + 3).toNat = Int32.ofInt x3) (h : lc_3 n x1 x2 x3 M = some M9)
    (kn : ∀ (ls : Array Slot) (H : Heap) (locs : List Loc), lv_has ls 7 [(4, .int (Int32.ofInt (i9 + 4))), (3, .ref (adr 48)), (2, .ref (adr 36)), (1, .ref (adr 0)), (0, .ref b)] → wH G A s.heap s (LL adr) (wf G adr (tm M9)) H locs → W p l e room_1 s m #[Value.ref b] below meth c H locs (cells + 4) (slots + 24) (lw_Z below #[Value.ref b] s) (F0 m 23 ls []))
    {ls : Array Slot} {H : Heap} {locs : List Loc} (hl : lv_has ls 7 [(4, .int (Int32.ofInt i9)), (3, .ref (adr 48)), (2, .ref (adr 36)), (1, .ref (adr 0)), (0, .ref b)]) (hw : wH G A s.heap s (LL adr) (wf G adr (tm M)) H locs) : W p l e room_1 s m #[Value.ref b] below meth c H locs cells slots (lw_Z below #[Value.ref b] s) (F0 m 315 ls []) := by
  have fx : CallFix p m c cL_law 7 s #[Value.ref b] uU RL := ⟨hx, hb, hml, hown, hts⟩
  unfold lc_3 at h
  refine lv_aload_n hx hb dL_law_315 rfl (lv_at hl 3 rfl) ?_
  refine lv_aload_n hx hb dL_law_316 rfl (lv_at hl 4 rfl) ?_
  refine lv_iload hx hb dL_law_317 (lv_at hl 0 rfl) ?_
  refine lv_iconst (v := Int32.ofInt (1)) hx hb dL_law_319 rfl ?_
  refine o_iadd hx hb dL_law_320 ?_
  refine o_sld (x := x1) hx hb hXs hbl hbA hw hL9 (by omega) (by omega) hx1 dL_law_321 ?_
  refine lv_aload_n hx hb dL_law_322 rfl (lv_at hl 4 rfl) ?_
  refine lv_iload hx hb dL_law_323 (lv_at hl 0 rfl) ?_
  refine lv_iconst (v := Int32.ofInt (2)) hx hb dL_law_325 rfl ?_
  refine o_iadd hx hb dL_law_326 ?_
  refine o_sld (x := x2) hx hb hXs hbl hbA hw hL9 (by omega) (by omega) hx2 dL_law_327 ?_
  refine lv_aload_n hx hb dL_law_328 rfl (lv_at hl 1 rfl) ?_
  replace h := bnd h
  obtain ⟨⟨v1, M2⟩, e1, h⟩ := h
  refine hy_callSi (c1 := cells + 4) (s1 := slots + 24) (As := [.ref (adr 0), .int (Int32.ofInt x1), .int (Int32.ofInt x2), .ref (adr 48)]) (rest := []) fx hY hw (cc_L_times (l := l) (G := G) hl0 hi e1) (h_cS 4 hts q_723 q_724 q_725 q_726 rfl rfl (by decide) (by decide)) hl.1 rfl (lv_room (Nat.le_of_ble_eq_true rfl)) dL_law_329 ⟨by omega, by omega⟩ rfl rfl (fun H locs hw => ?_)
  refine lv_istore (lv' := [(5, .int (Int32.ofInt v1)), (4, .int (Int32.ofInt i9)), (3, .ref (adr 48)), (2, .ref (adr 36)), (1, .ref (adr 0)), (0, .ref b)]) hx hb dL_law_332 hl (by decide) rfl (fun ls hl => ?_)
  refine lv_aload_n hx hb dL_law_334 rfl (lv_at hl 3 rfl) ?_
  refine lv_aload_n hx hb dL_law_335 rfl (lv_at hl 5 rfl) ?_
  refine lv_iload hx hb dL_law_336 (lv_at hl 1 rfl) ?_
  refine lv_iconst (v := Int32.ofInt (1)) hx hb dL_law_338 rfl ?_
  refine o_iadd hx hb dL_law_339 ?_
  refine o_sld (x := x1) hx hb hXs hbl hbA hw hL9 (by omega) (by omega) hx1 dL_law_340 ?_
  refine lv_aload_n hx hb dL_law_341 rfl (lv_at hl 5 rfl) ?_
  refine lv_iload hx hb dL_law_342 (lv_at hl 1 rfl) ?_
  refine lv_iconst (v := Int32.ofInt (2)) hx hb dL_law_344 rfl ?_
  refine o_iadd hx hb dL_law_345 ?_
  refine o_sld (x := x2) hx hb hXs hbl hbA hw hL9 (by omega) (by omega) hx2 dL_law_346 ?_
  replace h := bnd h
  obtain ⟨⟨v3, M4⟩, e3, h⟩ := h
  refine n_callVi (k := 36) (As := [.int (Int32.ofInt x1), .int (Int32.ofInt x2)]) (rest := []) fx hi hw (cc_X8_times (l := l) (G := G) (sz := H.size) hi e3) (by decide) rfl rfl (w_cV 2 hts q_727 q_728 q_729 q_730 q_731 rfl rfl (by decide) (by decide)) ⟨by omega, by omega⟩ hl.1 rfl (lv_room (Nat.le_of_ble_eq_true rfl)) dL_law_347 (fun H locs hw => ?_)
  refine lv_istore (lv' := [(6, .int (Int32.ofInt v3)), (5, .int (Int32.ofInt v1)), (4, .int (Int32.ofInt i9)), (3, .ref (adr 48)), (2, .ref (adr 36)), (1, .ref (adr 0)), (0, .ref b)]) hx hb dL_law_350 hl (by decide) rfl (fun ls hl => ?_)
  refine lv_aload_n hx hb dL_law_352 rfl (lv_at hl 4 rfl) ?_
  replace h := bnd h
  obtain ⟨v5, e5, h⟩ := h
  refine n_callVi (k := 36) (As := []) (rest := []) fx hi hw (cc_X8_thrown (l := l) (G := G) (sz := H.size) hi e5) (by decide) rfl rfl (w_cV 0 hts q_700 q_701 q_702 q_703 q_704 rfl rfl (by decide) (by decide)) ⟨by omega, by omega⟩ hl.1 rfl (lv_room (Nat.le_of_ble_eq_true rfl)) dL_law_353 (fun H locs hw => ?_)
  refine lv_iload hx hb dL_law_356 (lv_at hl 1 rfl) ?_
  replace h := bnd h
  obtain ⟨_, hg, h⟩ := h
  refine o_icmp_eq (tgt := 363) hx hb hg dL_law_358 (by decide) (fun hc => ?_) (fun hc => ?_)
  · replace h := ite_t hc h
    refine lv_iload hx hb dL_law_363 (lv_at hl 1 rfl) ?_
    replace h := bnd h
    obtain ⟨_, hg, h⟩ := h
    refine o_if_ne (tgt := 380) hx hb hg dL_law_365 (by decide) (fun hc => ?_) (fun hc => ?_)
    · replace h := ite_f hc h
      refine lv_goto (tgt := 1103) hx hb dL_law_380 (by decide) ?_
      refine lv_iinc (v := Int32.ofInt (i9 + 4)) (lv' := [(4, .int (Int32.ofInt (i9 + 4))), (6, .int (Int32.ofInt v3)), (5, .int (Int32.ofInt v1)), (3, .ref (adr 48)), (2, .ref (adr 36)), (1, .ref (adr 0)), (0, .ref b)]) hx hb dL_law_1103 hl (k := 2) rfl (inc_o _ _) (by decide) rfl (fun ls hl => ?_)
      refine lv_goto (tgt := 23) hx hb dL_law_1106 (by decide) ?_
      cases h
      exact kn _ _ _ (lv_sub hl [0, 3, 4, 5, 6] rfl) hw
    · replace h := ite_t hc h
      refine lv_aload_n hx hb dL_law_368 rfl (lv_at hl 3 rfl) ?_
      refine lv_iconst (v := Int32.ofInt (0)) hx hb dL_law_369 rfl ?_
      replace h := bnd h
      obtain ⟨v6, e6, h⟩ := h
      refine o_lald hx hb hi hw e6 dL_law_370 ?_
      refine lv_iload hx hb dL_law_371 (lv_at hl 0 rfl) ?_
      replace h := bnd h
      obtain ⟨v7, e7, h⟩ := h
      refine o_i2l hx hb e7 dL_law_373 ?_
      replace h := bnd h
      obtain ⟨_, hg, h⟩ := h
      refine o_lcmp_eq (tgt := 380) hx hb hg dL_law_374 dL_law_375 (by decide) (fun hc => ?_) (fun hc => ?_)
      · replace h := ite_t hc h
        refine lv_goto (tgt := 1103) hx hb dL_law_380 (by decide) ?_
        refine lv_iinc (v := Int32.ofInt (i9 + 4)) (lv' := [(4, .int (Int32.ofInt (i9 + 4))), (6, .int (Int32.ofInt v3)), (5, .int (Int32.ofInt v1)), (3, .ref (adr 48)), (2, .ref (adr 36)), (1, .ref (adr 0)), (0, .ref b)]) hx hb dL_law_1103 hl (k := 2) rfl (inc_o _ _) (by decide) rfl (fun ls hl => ?_)
        refine lv_goto (tgt := 23) hx hb dL_law_1106 (by decide) ?_
        cases h
        exact kn _ _ _ (lv_sub hl [0, 3, 4, 5, 6] rfl) hw
      · replace h := ite_f hc h
        refine lv_iconst (v := Int32.ofInt (0)) hx hb dL_law_378 rfl ?_
        cases h
  · replace h := ite_f hc h
    refine lv_iconst (v := Int32.ofInt (0)) hx hb dL_law_361 rfl ?_
    cases h
theorem q_732 : Cond.methodLink RL 92 yL_over ∈ uU := uU_in (by decide +kernel) (by decide +kernel)
theorem q_733 : Cond.static yL_over ∈ uU := uU_in (by decide +kernel) (by decide +kernel)
theorem q_734 : Cond.initialized yL_over.cls ∈ uU := uU_in (by decide +kernel) (by decide +kernel)
theorem q_735 : Cond.codeWith yL_over cL_over 5 (some .int) [(0, 10, 13, 19), (0, 10, 17, 13), (0, 10, 21, 33)] ∈ uU := uU_in (by decide +kernel) (by decide +kernel)
theorem q_736 : Cond.methodLink RL 94 yX8_over ∈ uU := uU_in (by decide +kernel) (by decide +kernel)
theorem q_737 : Cond.instanceMethod yX8_over ∈ uU := uU_in (by decide +kernel) (by decide +kernel)
theorem q_738 : Cond.selects yX8_over.cls yX8_over yX8_over ∈ uU := uU_in (by decide +kernel) (by decide +kernel)
theorem q_739 : Cond.initialized yX8_over.cls ∈ uU := uU_in (by decide +kernel) (by decide +kernel)
theorem q_740 : Cond.code yX8_over cX8_over 3 (some .int) ∈ uU := uU_in (by decide +kernel) (by decide +kernel)
def lc_4 (n : Nat) (x1 x2 x3 : Int) (M : MI) : Option MI :=
  Option.bind (fL_over n x1 x2 M) fun (v1, M2) =>
  Option.bind (f_X8_over n x1 x2 M2) fun (v3, M4) =>
  Option.bind (f_X8_thrown M4) fun v5 =>
  Option.bind (gI v5 v1) fun _ =>
  if v5 = v1 then
    Option.bind (gI v1 0) fun _ =>
    if v1 = 0 then
      Option.bind (odJ M4 48 (0)) fun v6 =>
      Option.bind (gI v3 0) fun v7 =>
      Option.bind (gJ v6 v3) fun _ =>
      if v6 = v3 then
        some M4
      else
        none
    else
      some M4
  else
    none
set_option maxRecDepth 100000 in
set_option maxHeartbeats 8000000 in
theorem lb_4 {p : Program} {l : Launch} {e : Env} {s : State} {m : MethodId} {below : List Frame} {meth : Method} {c : Code} {b L9 : Nat} {xs : Nat → Int32} {G : gG} {A : Nat → Prop} {adr : Nat → Nat} {cells slots : Nat} {i9 x1 x2 x3 : Int} {n : Nat} {M M9 : MI} (hl0 : l.stackTraces = false) (hx : p.tables.exec = Jvm.exec) (hb : c.code = cL_law) (hml : c.maxLocals = 7) (hown : s.vm.findClass RL = some m.cls) (hts : ∀ w ∈ uU, w.before #[Value.ref b] s = true) (hXs : va_X b L9 xs s s.heap) (hbl : b < s.heap.size) (hbA : ¬ A b) (hL9 : L9 ≤ 2048) (hY : tY A s s.heap) (hi : adi adr) (hc9 : cells + 8 ≤ room_1.cells) (hs9 : slots + 48 ≤ room_1.slots) (h09 : 0 ≤ i9) (h19 : i9 + 4 ≤ L9) (hx1 : xs (i9 + 1).toNat = Int32.ofInt x1) (hx2 : xs (i9 + 2).toNat = Int32.ofInt x2) (hx3 : xs (i9 + 3).toNat = Int32.ofInt x3) (h : lc_4 n x1 x2 x3 M = some M9)
    (kn : ∀ (ls : Array Slot) (H : Heap) (locs : List Loc), lv_has ls 7 [(4, .int (Int32.ofInt (i9 + 4))), (3, .ref (adr 48)), (2, .ref (adr 36)), (1, .ref (adr 0)), (0, .ref b)] → wH G A s.heap s (LL adr) (wf G adr (tm M9)) H locs → W p l e room_1 s m #[Value.ref b] below meth c H locs (cells + 4) (slots + 24) (lw_Z below #[Value.ref b] s) (F0 m 23 ls []))
    {ls : Array Slot} {H : Heap} {locs : List Loc} (hl : lv_has ls 7 [(4, .int (Int32.ofInt i9)), (3, .ref (adr 48)), (2, .ref (adr 36)), (1, .ref (adr 0)), (0, .ref b)]) (hw : wH G A s.heap s (LL adr) (wf G adr (tm M)) H locs) : W p l e room_1 s m #[Value.ref b] below meth c H locs cells slots (lw_Z below #[Value.ref b] s) (F0 m 383 ls []) := by
  have fx : CallFix p m c cL_law 7 s #[Value.ref b] uU RL := ⟨hx, hb, hml, hown, hts⟩
  unfold lc_4 at h
  refine lv_aload_n hx hb dL_law_383 rfl (lv_at hl 3 rfl) ?_
  refine lv_aload_n hx hb dL_law_384 rfl (lv_at hl 4 rfl) ?_
  refine lv_iload hx hb dL_law_385 (lv_at hl 0 rfl) ?_
  refine lv_iconst (v := Int32.ofInt (1)) hx hb dL_law_387 rfl ?_
  refine o_iadd hx hb dL_law_388 ?_
  refine o_sld (x := x1) hx hb hXs hbl hbA hw hL9 (by omega) (by omega) hx1 dL_law_389 ?_
  refine lv_aload_n hx hb dL_law_390 rfl (lv_at hl 4 rfl) ?_
  refine lv_iload hx hb dL_law_391 (lv_at hl 0 rfl) ?_
  refine lv_iconst (v := Int32.ofInt (2)) hx hb dL_law_393 rfl ?_
  refine o_iadd hx hb dL_law_394 ?_
  refine o_sld (x := x2) hx hb hXs hbl hbA hw hL9 (by omega) (by omega) hx2 dL_law_395 ?_
  refine lv_aload_n hx hb dL_law_396 rfl (lv_at hl 1 rfl) ?_
  replace h := bnd h
  obtain ⟨⟨v1, M2⟩, e1, h⟩ := h
  refine hy_callSi (c1 := cells + 4) (s1 := slots + 24) (As := [.ref (adr 0), .int (Int32.ofInt x1), .int (Int32.ofInt x2), .ref (adr 48)]) (rest := []) fx hY hw (cc_L_over (l := l) (G := G) hl0 hi e1) (h_cS 4 hts q_732 q_733 q_734 q_735 rfl rfl (by decide) (by decide)) hl.1 rfl (lv_room (Nat.le_of_ble_eq_true rfl)) dL_law_397 ⟨by omega, by omega⟩ rfl rfl (fun H locs hw => ?_)
  refine lv_istore (lv' := [(5, .int (Int32.ofInt v1)), (4, .int (Int32.ofInt i9)), (3, .ref (adr 48)), (2, .ref (adr 36)), (1, .ref (adr 0)), (0, .ref b)]) hx hb dL_law_400 hl (by decide) rfl (fun ls hl => ?_)
  refine lv_aload_n hx hb dL_law_402 rfl (lv_at hl 3 rfl) ?_
  refine lv_aload_n hx hb dL_law_403 rfl (lv_at hl 5 rfl) ?_
  refine lv_iload hx hb dL_law_404 (lv_at hl 1 rfl) ?_
  refine lv_iconst (v := Int32.ofInt (1)) hx hb dL_law_406 rfl ?_
  refine o_iadd hx hb dL_law_407 ?_
  refine o_sld (x := x1) hx hb hXs hbl hbA hw hL9 (by omega) (by omega) hx1 dL_law_408 ?_
  refine lv_aload_n hx hb dL_law_409 rfl (lv_at hl 5 rfl) ?_
  refine lv_iload hx hb dL_law_410 (lv_at hl 1 rfl) ?_
  refine lv_iconst (v := Int32.ofInt (2)) hx hb dL_law_412 rfl ?_
  refine o_iadd hx hb dL_law_413 ?_
  refine o_sld (x := x2) hx hb hXs hbl hbA hw hL9 (by omega) (by omega) hx2 dL_law_414 ?_
  replace h := bnd h
  obtain ⟨⟨v3, M4⟩, e3, h⟩ := h
  refine n_callVi (k := 36) (As := [.int (Int32.ofInt x1), .int (Int32.ofInt x2)]) (rest := []) fx hi hw (cc_X8_over (l := l) (G := G) (sz := H.size) hi e3) (by decide) rfl rfl (w_cV 2 hts q_736 q_737 q_738 q_739 q_740 rfl rfl (by decide) (by decide)) ⟨by omega, by omega⟩ hl.1 rfl (lv_room (Nat.le_of_ble_eq_true rfl)) dL_law_415 (fun H locs hw => ?_)
  refine lv_istore (lv' := [(6, .int (Int32.ofInt v3)), (5, .int (Int32.ofInt v1)), (4, .int (Int32.ofInt i9)), (3, .ref (adr 48)), (2, .ref (adr 36)), (1, .ref (adr 0)), (0, .ref b)]) hx hb dL_law_418 hl (by decide) rfl (fun ls hl => ?_)
  refine lv_aload_n hx hb dL_law_420 rfl (lv_at hl 4 rfl) ?_
  replace h := bnd h
  obtain ⟨v5, e5, h⟩ := h
  refine n_callVi (k := 36) (As := []) (rest := []) fx hi hw (cc_X8_thrown (l := l) (G := G) (sz := H.size) hi e5) (by decide) rfl rfl (w_cV 0 hts q_700 q_701 q_702 q_703 q_704 rfl rfl (by decide) (by decide)) ⟨by omega, by omega⟩ hl.1 rfl (lv_room (Nat.le_of_ble_eq_true rfl)) dL_law_421 (fun H locs hw => ?_)
  refine lv_iload hx hb dL_law_424 (lv_at hl 1 rfl) ?_
  replace h := bnd h
  obtain ⟨_, hg, h⟩ := h
  refine o_icmp_eq (tgt := 431) hx hb hg dL_law_426 (by decide) (fun hc => ?_) (fun hc => ?_)
  · replace h := ite_t hc h
    refine lv_iload hx hb dL_law_431 (lv_at hl 1 rfl) ?_
    replace h := bnd h
    obtain ⟨_, hg, h⟩ := h
    refine o_if_ne (tgt := 448) hx hb hg dL_law_433 (by decide) (fun hc => ?_) (fun hc => ?_)
    · replace h := ite_f hc h
      refine lv_goto (tgt := 1103) hx hb dL_law_448 (by decide) ?_
      refine lv_iinc (v := Int32.ofInt (i9 + 4)) (lv' := [(4, .int (Int32.ofInt (i9 + 4))), (6, .int (Int32.ofInt v3)), (5, .int (Int32.ofInt v1)), (3, .ref (adr 48)), (2, .ref (adr 36)), (1, .ref (adr 0)), (0, .ref b)]) hx hb dL_law_1103 hl (k := 2) rfl (inc_o _ _) (by decide) rfl (fun ls hl => ?_)
      refine lv_goto (tgt := 23) hx hb dL_law_1106 (by decide) ?_
      cases h
      exact kn _ _ _ (lv_sub hl [0, 3, 4, 5, 6] rfl) hw
    · replace h := ite_t hc h
      refine lv_aload_n hx hb dL_law_436 rfl (lv_at hl 3 rfl) ?_
      refine lv_iconst (v := Int32.ofInt (0)) hx hb dL_law_437 rfl ?_
      replace h := bnd h
      obtain ⟨v6, e6, h⟩ := h
      refine o_lald hx hb hi hw e6 dL_law_438 ?_
      refine lv_iload hx hb dL_law_439 (lv_at hl 0 rfl) ?_
      replace h := bnd h
      obtain ⟨v7, e7, h⟩ := h
      refine o_i2l hx hb e7 dL_law_441 ?_
      replace h := bnd h
      obtain ⟨_, hg, h⟩ := h
      refine o_lcmp_eq (tgt := 448) hx hb hg dL_law_442 dL_law_443 (by decide) (fun hc => ?_) (fun hc => ?_)
      · replace h := ite_t hc h
        refine lv_goto (tgt := 1103) hx hb dL_law_448 (by decide) ?_
        refine lv_iinc (v := Int32.ofInt (i9 + 4)) (lv' := [(4, .int (Int32.ofInt (i9 + 4))), (6, .int (Int32.ofInt v3)), (5, .int (Int32.ofInt v1)), (3, .ref (adr 48)), (2, .ref (adr 36)), (1, .ref (adr 0)), (0, .ref b)]) hx hb dL_law_1103 hl (k := 2) rfl (inc_o _ _) (by decide) rfl (fun ls hl => ?_)
        refine lv_goto (tgt := 23) hx hb dL_law_1106 (by decide) ?_
        cases h
        exact kn _ _ _ (lv_sub hl [0, 3, 4, 5, 6] rfl) hw
      · replace h := ite_f hc h
        refine lv_iconst (v := Int32.ofInt (0)) hx hb dL_law_446 rfl ?_
        cases h
  · replace h := ite_f hc h
    refine lv_iconst (v := Int32.ofInt (0)) hx hb dL_law_429 rfl ?_
    cases h
theorem q_741 : Cond.methodLink RL 95 yL_gcd ∈ uU := uU_in (by decide +kernel) (by decide +kernel)
theorem q_742 : Cond.static yL_gcd ∈ uU := uU_in (by decide +kernel) (by decide +kernel)
theorem q_743 : Cond.initialized yL_gcd.cls ∈ uU := uU_in (by decide +kernel) (by decide +kernel)
theorem q_744 : Cond.codeWith yL_gcd cL_gcd 5 (some .int) [(0, 10, 13, 19), (0, 10, 17, 13)] ∈ uU := uU_in (by decide +kernel) (by decide +kernel)
theorem q_745 : Cond.methodLink RL 97 yX8_gcd ∈ uU := uU_in (by decide +kernel) (by decide +kernel)
theorem q_746 : Cond.instanceMethod yX8_gcd ∈ uU := uU_in (by decide +kernel) (by decide +kernel)
theorem q_747 : Cond.selects yX8_gcd.cls yX8_gcd yX8_gcd ∈ uU := uU_in (by decide +kernel) (by decide +kernel)
theorem q_748 : Cond.initialized yX8_gcd.cls ∈ uU := uU_in (by decide +kernel) (by decide +kernel)
theorem q_749 : Cond.code yX8_gcd cX8_gcd 3 (some .int) ∈ uU := uU_in (by decide +kernel) (by decide +kernel)
def lc_5 (n : Nat) (x1 x2 x3 : Int) (M : MI) : Option MI :=
  Option.bind (fL_gcd n x1 x2 M) fun (v1, M2) =>
  Option.bind (f_X8_gcd n x1 x2 M2) fun (v3, M4) =>
  Option.bind (f_X8_thrown M4) fun v5 =>
  Option.bind (gI v5 v1) fun _ =>
  if v5 = v1 then
    Option.bind (gI v1 0) fun _ =>
    if v1 = 0 then
      Option.bind (odJ M4 48 (0)) fun v6 =>
      Option.bind (gI v3 0) fun v7 =>
      Option.bind (gJ v6 v3) fun _ =>
      if v6 = v3 then
        some M4
      else
        none
    else
      some M4
  else
    none
set_option maxRecDepth 100000 in
set_option maxHeartbeats 8000000 in
theorem lb_5 {p : Program} {l : Launch} {e : Env} {s : State} {m : MethodId} {below : List Frame} {meth : Method} {c : Code} {b L9 : Nat} {xs : Nat → Int32} {G : gG} {A : Nat → Prop} {adr : Nat → Nat} {cells slots : Nat} {i9 x1 x2 x3 : Int} {n : Nat} {M M9 : MI} (hl0 : l.stackTraces = false) (hx : p.tables.exec = Jvm.exec) (hb : c.code = cL_law) (hml : c.maxLocals = 7) (hown : s.vm.findClass RL = some m.cls) (hts : ∀ w ∈ uU, w.before #[Value.ref b] s = true) (hXs : va_X b L9 xs s s.heap) (hbl : b < s.heap.size) (hbA : ¬ A b) (hL9 : L9 ≤ 2048) (hY : tY A s s.heap) (hi : adi adr) (hc9 : cells + 8 ≤ room_1.cells) (hs9 : slots + 48 ≤ room_1.slots) (h09 : 0 ≤ i9) (h19 : i9 + 4 ≤ L9) (hx1 : xs (i9 + 1).toNat = Int32.ofInt x1) (hx2 : xs (i9 + 2).toNat = Int32.ofInt x2) (hx3 : xs (i9 + 3).toNat = Int32.ofInt x3) (h : lc_5 n x1 x2 x3 M = some M9)
    (kn : ∀ (ls : Array Slot) (H : Heap) (locs : List Loc), lv_has ls 7 [(4, .int (Int32.ofInt (i9 + 4))), (3, .ref (adr 48)), (2, .ref (adr 36)), (1, .ref (adr 0)), (0, .ref b)] → wH G A s.heap s (LL adr) (wf G adr (tm M9)) H locs → W p l e room_1 s m #[Value.ref b] below meth c H locs (cells + 3) (slots + 18) (lw_Z below #[Value.ref b] s) (F0 m 23 ls []))
    {ls : Array Slot} {H : Heap} {locs : List Loc} (hl : lv_has ls 7 [(4, .int (Int32.ofInt i9)), (3, .ref (adr 48)), (2, .ref (adr 36)), (1, .ref (adr 0)), (0, .ref b)]) (hw : wH G A s.heap s (LL adr) (wf G adr (tm M)) H locs) : W p l e room_1 s m #[Value.ref b] below meth c H locs cells slots (lw_Z below #[Value.ref b] s) (F0 m 451 ls []) := by
  have fx : CallFix p m c cL_law 7 s #[Value.ref b] uU RL := ⟨hx, hb, hml, hown, hts⟩
  unfold lc_5 at h
  refine lv_aload_n hx hb dL_law_451 rfl (lv_at hl 3 rfl) ?_
  refine lv_aload_n hx hb dL_law_452 rfl (lv_at hl 4 rfl) ?_
  refine lv_iload hx hb dL_law_453 (lv_at hl 0 rfl) ?_
  refine lv_iconst (v := Int32.ofInt (1)) hx hb dL_law_455 rfl ?_
  refine o_iadd hx hb dL_law_456 ?_
  refine o_sld (x := x1) hx hb hXs hbl hbA hw hL9 (by omega) (by omega) hx1 dL_law_457 ?_
  refine lv_aload_n hx hb dL_law_458 rfl (lv_at hl 4 rfl) ?_
  refine lv_iload hx hb dL_law_459 (lv_at hl 0 rfl) ?_
  refine lv_iconst (v := Int32.ofInt (2)) hx hb dL_law_461 rfl ?_
  refine o_iadd hx hb dL_law_462 ?_
  refine o_sld (x := x2) hx hb hXs hbl hbA hw hL9 (by omega) (by omega) hx2 dL_law_463 ?_
  refine lv_aload_n hx hb dL_law_464 rfl (lv_at hl 1 rfl) ?_
  replace h := bnd h
  obtain ⟨⟨v1, M2⟩, e1, h⟩ := h
  refine hy_callSi (c1 := cells + 3) (s1 := slots + 18) (As := [.ref (adr 0), .int (Int32.ofInt x1), .int (Int32.ofInt x2), .ref (adr 48)]) (rest := []) fx hY hw (cc_L_gcd (l := l) (G := G) hl0 hi e1) (h_cS 4 hts q_741 q_742 q_743 q_744 rfl rfl (by decide) (by decide)) hl.1 rfl (lv_room (Nat.le_of_ble_eq_true rfl)) dL_law_465 ⟨by omega, by omega⟩ rfl rfl (fun H locs hw => ?_)
  refine lv_istore (lv' := [(5, .int (Int32.ofInt v1)), (4, .int (Int32.ofInt i9)), (3, .ref (adr 48)), (2, .ref (adr 36)), (1, .ref (adr 0)), (0, .ref b)]) hx hb dL_law_468 hl (by decide) rfl (fun ls hl => ?_)
  refine lv_aload_n hx hb dL_law_470 rfl (lv_at hl 3 rfl) ?_
  refine lv_aload_n hx hb dL_law_471 rfl (lv_at hl 5 rfl) ?_
  refine lv_iload hx hb dL_law_472 (lv_at hl 1 rfl) ?_
  refine lv_iconst (v := Int32.ofInt (1)) hx hb dL_law_474 rfl ?_
  refine o_iadd hx hb dL_law_475 ?_
  refine o_sld (x := x1) hx hb hXs hbl hbA hw hL9 (by omega) (by omega) hx1 dL_law_476 ?_
  refine lv_aload_n hx hb dL_law_477 rfl (lv_at hl 5 rfl) ?_
  refine lv_iload hx hb dL_law_478 (lv_at hl 1 rfl) ?_
  refine lv_iconst (v := Int32.ofInt (2)) hx hb dL_law_480 rfl ?_
  refine o_iadd hx hb dL_law_481 ?_
  refine o_sld (x := x2) hx hb hXs hbl hbA hw hL9 (by omega) (by omega) hx2 dL_law_482 ?_
  replace h := bnd h
  obtain ⟨⟨v3, M4⟩, e3, h⟩ := h
  refine n_callVi (k := 36) (As := [.int (Int32.ofInt x1), .int (Int32.ofInt x2)]) (rest := []) fx hi hw (cc_X8_gcd (l := l) (G := G) (sz := H.size) hi e3) (by decide) rfl rfl (w_cV 2 hts q_745 q_746 q_747 q_748 q_749 rfl rfl (by decide) (by decide)) ⟨by omega, by omega⟩ hl.1 rfl (lv_room (Nat.le_of_ble_eq_true rfl)) dL_law_483 (fun H locs hw => ?_)
  refine lv_istore (lv' := [(6, .int (Int32.ofInt v3)), (5, .int (Int32.ofInt v1)), (4, .int (Int32.ofInt i9)), (3, .ref (adr 48)), (2, .ref (adr 36)), (1, .ref (adr 0)), (0, .ref b)]) hx hb dL_law_486 hl (by decide) rfl (fun ls hl => ?_)
  refine lv_aload_n hx hb dL_law_488 rfl (lv_at hl 4 rfl) ?_
  replace h := bnd h
  obtain ⟨v5, e5, h⟩ := h
  refine n_callVi (k := 36) (As := []) (rest := []) fx hi hw (cc_X8_thrown (l := l) (G := G) (sz := H.size) hi e5) (by decide) rfl rfl (w_cV 0 hts q_700 q_701 q_702 q_703 q_704 rfl rfl (by decide) (by decide)) ⟨by omega, by omega⟩ hl.1 rfl (lv_room (Nat.le_of_ble_eq_true rfl)) dL_law_489 (fun H locs hw => ?_)
  refine lv_iload hx hb dL_law_492 (lv_at hl 1 rfl) ?_
  replace h := bnd h
  obtain ⟨_, hg, h⟩ := h
  refine o_icmp_eq (tgt := 499) hx hb hg dL_law_494 (by decide) (fun hc => ?_) (fun hc => ?_)
  · replace h := ite_t hc h
    refine lv_iload hx hb dL_law_499 (lv_at hl 1 rfl) ?_
    replace h := bnd h
    obtain ⟨_, hg, h⟩ := h
    refine o_if_ne (tgt := 516) hx hb hg dL_law_501 (by decide) (fun hc => ?_) (fun hc => ?_)
    · replace h := ite_f hc h
      refine lv_goto (tgt := 1103) hx hb dL_law_516 (by decide) ?_
      refine lv_iinc (v := Int32.ofInt (i9 + 4)) (lv' := [(4, .int (Int32.ofInt (i9 + 4))), (6, .int (Int32.ofInt v3)), (5, .int (Int32.ofInt v1)), (3, .ref (adr 48)), (2, .ref (adr 36)), (1, .ref (adr 0)), (0, .ref b)]) hx hb dL_law_1103 hl (k := 2) rfl (inc_o _ _) (by decide) rfl (fun ls hl => ?_)
      refine lv_goto (tgt := 23) hx hb dL_law_1106 (by decide) ?_
      cases h
      exact kn _ _ _ (lv_sub hl [0, 3, 4, 5, 6] rfl) hw
    · replace h := ite_t hc h
      refine lv_aload_n hx hb dL_law_504 rfl (lv_at hl 3 rfl) ?_
      refine lv_iconst (v := Int32.ofInt (0)) hx hb dL_law_505 rfl ?_
      replace h := bnd h
      obtain ⟨v6, e6, h⟩ := h
      refine o_lald hx hb hi hw e6 dL_law_506 ?_
      refine lv_iload hx hb dL_law_507 (lv_at hl 0 rfl) ?_
      replace h := bnd h
      obtain ⟨v7, e7, h⟩ := h
      refine o_i2l hx hb e7 dL_law_509 ?_
      replace h := bnd h
      obtain ⟨_, hg, h⟩ := h
      refine o_lcmp_eq (tgt := 516) hx hb hg dL_law_510 dL_law_511 (by decide) (fun hc => ?_) (fun hc => ?_)
      · replace h := ite_t hc h
        refine lv_goto (tgt := 1103) hx hb dL_law_516 (by decide) ?_
        refine lv_iinc (v := Int32.ofInt (i9 + 4)) (lv' := [(4, .int (Int32.ofInt (i9 + 4))), (6, .int (Int32.ofInt v3)), (5, .int (Int32.ofInt v1)), (3, .ref (adr 48)), (2, .ref (adr 36)), (1, .ref (adr 0)), (0, .ref b)]) hx hb dL_law_1103 hl (k := 2) rfl (inc_o _ _) (by decide) rfl (fun ls hl => ?_)
        refine lv_goto (tgt := 23) hx hb dL_law_1106 (by decide) ?_
        cases h
        exact kn _ _ _ (lv_sub hl [0, 3, 4, 5, 6] rfl) hw
      · replace h := ite_f hc h
        refine lv_iconst (v := Int32.ofInt (0)) hx hb dL_law_514 rfl ?_
        cases h
  · replace h := ite_f hc h
    refine lv_iconst (v := Int32.ofInt (0)) hx hb dL_law_497 rfl ?_
    cases h
theorem q_750 : Cond.methodLink RL 98 yL_run ∈ uU := uU_in (by decide +kernel) (by decide +kernel)
theorem q_751 : Cond.static yL_run ∈ uU := uU_in (by decide +kernel) (by decide +kernel)
theorem q_752 : Cond.initialized yL_run.cls ∈ uU := uU_in (by decide +kernel) (by decide +kernel)
theorem q_753 : Cond.codeWith yL_run cL_run 4 (some .int) [(0, 9, 12, 19), (0, 9, 15, 13)] ∈ uU := uU_in (by decide +kernel) (by decide +kernel)
theorem q_754 : Cond.methodLink RL 101 yX8_run ∈ uU := uU_in (by decide +kernel) (by decide +kernel)
theorem q_755 : Cond.instanceMethod yX8_run ∈ uU := uU_in (by decide +kernel) (by decide +kernel)
theorem q_756 : Cond.selects yX8_run.cls yX8_run yX8_run ∈ uU := uU_in (by decide +kernel) (by decide +kernel)
theorem q_757 : Cond.initialized yX8_run.cls ∈ uU := uU_in (by decide +kernel) (by decide +kernel)
theorem q_758 : Cond.code yX8_run cX8_run 4 (some .int) ∈ uU := uU_in (by decide +kernel) (by decide +kernel)
def lc_6 (n : Nat) (x1 x2 x3 : Int) (M : MI) : Option MI :=
  Option.bind (fL_run n x1 M) fun (v1, M2) =>
  Option.bind (f_X8_run n x1 M2) fun (v3, M4) =>
  Option.bind (f_X8_thrown M4) fun v5 =>
  Option.bind (gI v5 v1) fun _ =>
  if v5 = v1 then
    Option.bind (gI v1 0) fun _ =>
    if v1 = 0 then
      Option.bind (odJ M4 48 (0)) fun v6 =>
      Option.bind (gI v3 0) fun v7 =>
      Option.bind (gJ v6 v3) fun _ =>
      if v6 = v3 then
        some M4
      else
        none
    else
      some M4
  else
    none
set_option maxRecDepth 100000 in
set_option maxHeartbeats 8000000 in
theorem lb_6 {p : Program} {l : Launch} {e : Env} {s : State} {m : MethodId} {below : List Frame} {meth : Method} {c : Code} {b L9 : Nat} {xs : Nat → Int32} {G : gG} {A : Nat → Prop} {adr : Nat → Nat} {cells slots : Nat} {i9 x1 x2 x3 : Int} {n : Nat} {M M9 : MI} (hl0 : l.stackTraces = false) (hx : p.tables.exec = Jvm.exec) (hb : c.code = cL_law) (hml : c.maxLocals = 7) (hown : s.vm.findClass RL = some m.cls) (hts : ∀ w ∈ uU, w.before #[Value.ref b] s = true) (hXs : va_X b L9 xs s s.heap) (hbl : b < s.heap.size) (hbA : ¬ A b) (hL9 : L9 ≤ 2048) (hY : tY A s s.heap) (hi : adi adr) (hc9 : cells + 8 ≤ room_1.cells) (hs9 : slots + 48 ≤ room_1.slots) (h09 : 0 ≤ i9) (h19 : i9 + 4 ≤ L9) (hx1 : xs (i9 + 1).toNat = Int32.ofInt x1) (hx2 : xs (i9 + 2).toNat = Int32.ofInt x2) (hx3 : xs (i9 + 3).toNat = Int32.ofInt x3) (h : lc_6 n x1 x2 x3 M = some M9)
    (kn : ∀ (ls : Array Slot) (H : Heap) (locs : List Loc), lv_has ls 7 [(4, .int (Int32.ofInt (i9 + 4))), (3, .ref (adr 48)), (2, .ref (adr 36)), (1, .ref (adr 0)), (0, .ref b)] → wH G A s.heap s (LL adr) (wf G adr (tm M9)) H locs → W p l e room_1 s m #[Value.ref b] below meth c H locs (cells + 2) (slots + 12) (lw_Z below #[Value.ref b] s) (F0 m 23 ls []))
    {ls : Array Slot} {H : Heap} {locs : List Loc} (hl : lv_has ls 7 [(4, .int (Int32.ofInt i9)), (3, .ref (adr 48)), (2, .ref (adr 36)), (1, .ref (adr 0)), (0, .ref b)]) (hw : wH G A s.heap s (LL adr) (wf G adr (tm M)) H locs) : W p l e room_1 s m #[Value.ref b] below meth c H locs cells slots (lw_Z below #[Value.ref b] s) (F0 m 519 ls []) := by
  have fx : CallFix p m c cL_law 7 s #[Value.ref b] uU RL := ⟨hx, hb, hml, hown, hts⟩
  unfold lc_6 at h
  refine lv_aload_n hx hb dL_law_519 rfl (lv_at hl 3 rfl) ?_
  refine lv_aload_n hx hb dL_law_520 rfl (lv_at hl 4 rfl) ?_
  refine lv_iload hx hb dL_law_521 (lv_at hl 0 rfl) ?_
  refine lv_iconst (v := Int32.ofInt (1)) hx hb dL_law_523 rfl ?_
  refine o_iadd hx hb dL_law_524 ?_
  refine o_sld (x := x1) hx hb hXs hbl hbA hw hL9 (by omega) (by omega) hx1 dL_law_525 ?_
  refine lv_aload_n hx hb dL_law_526 rfl (lv_at hl 1 rfl) ?_
  replace h := bnd h
  obtain ⟨⟨v1, M2⟩, e1, h⟩ := h
  refine hy_callSi (c1 := cells + 2) (s1 := slots + 12) (As := [.ref (adr 0), .int (Int32.ofInt x1), .ref (adr 48)]) (rest := []) fx hY hw (cc_L_run (l := l) (G := G) hl0 hi e1) (h_cS 3 hts q_750 q_751 q_752 q_753 rfl rfl (by decide) (by decide)) hl.1 rfl (lv_room (Nat.le_of_ble_eq_true rfl)) dL_law_527 ⟨by omega, by omega⟩ rfl rfl (fun H locs hw => ?_)
  refine lv_istore (lv' := [(5, .int (Int32.ofInt v1)), (4, .int (Int32.ofInt i9)), (3, .ref (adr 48)), (2, .ref (adr 36)), (1, .ref (adr 0)), (0, .ref b)]) hx hb dL_law_530 hl (by decide) rfl (fun ls hl => ?_)
  refine lv_aload_n hx hb dL_law_532 rfl (lv_at hl 3 rfl) ?_
  refine lv_aload_n hx hb dL_law_533 rfl (lv_at hl 5 rfl) ?_
  refine lv_iload hx hb dL_law_534 (lv_at hl 1 rfl) ?_
  refine lv_iconst (v := Int32.ofInt (1)) hx hb dL_law_536 rfl ?_
  refine o_iadd hx hb dL_law_537 ?_
  refine o_sld (x := x1) hx hb hXs hbl hbA hw hL9 (by omega) (by omega) hx1 dL_law_538 ?_
  replace h := bnd h
  obtain ⟨⟨v3, M4⟩, e3, h⟩ := h
  refine n_callVi (k := 36) (As := [.int (Int32.ofInt x1)]) (rest := []) fx hi hw (cc_X8_run (l := l) (G := G) (sz := H.size) hi e3) (by decide) rfl rfl (w_cV 1 hts q_754 q_755 q_756 q_757 q_758 rfl rfl (by decide) (by decide)) ⟨by omega, by omega⟩ hl.1 rfl (lv_room (Nat.le_of_ble_eq_true rfl)) dL_law_539 (fun H locs hw => ?_)
  refine lv_istore (lv' := [(6, .int (Int32.ofInt v3)), (5, .int (Int32.ofInt v1)), (4, .int (Int32.ofInt i9)), (3, .ref (adr 48)), (2, .ref (adr 36)), (1, .ref (adr 0)), (0, .ref b)]) hx hb dL_law_542 hl (by decide) rfl (fun ls hl => ?_)
  refine lv_aload_n hx hb dL_law_544 rfl (lv_at hl 4 rfl) ?_
  replace h := bnd h
  obtain ⟨v5, e5, h⟩ := h
  refine n_callVi (k := 36) (As := []) (rest := []) fx hi hw (cc_X8_thrown (l := l) (G := G) (sz := H.size) hi e5) (by decide) rfl rfl (w_cV 0 hts q_700 q_701 q_702 q_703 q_704 rfl rfl (by decide) (by decide)) ⟨by omega, by omega⟩ hl.1 rfl (lv_room (Nat.le_of_ble_eq_true rfl)) dL_law_545 (fun H locs hw => ?_)
  refine lv_iload hx hb dL_law_548 (lv_at hl 1 rfl) ?_
  replace h := bnd h
  obtain ⟨_, hg, h⟩ := h
  refine o_icmp_eq (tgt := 555) hx hb hg dL_law_550 (by decide) (fun hc => ?_) (fun hc => ?_)
  · replace h := ite_t hc h
    refine lv_iload hx hb dL_law_555 (lv_at hl 1 rfl) ?_
    replace h := bnd h
    obtain ⟨_, hg, h⟩ := h
    refine o_if_ne (tgt := 572) hx hb hg dL_law_557 (by decide) (fun hc => ?_) (fun hc => ?_)
    · replace h := ite_f hc h
      refine lv_goto (tgt := 1103) hx hb dL_law_572 (by decide) ?_
      refine lv_iinc (v := Int32.ofInt (i9 + 4)) (lv' := [(4, .int (Int32.ofInt (i9 + 4))), (6, .int (Int32.ofInt v3)), (5, .int (Int32.ofInt v1)), (3, .ref (adr 48)), (2, .ref (adr 36)), (1, .ref (adr 0)), (0, .ref b)]) hx hb dL_law_1103 hl (k := 2) rfl (inc_o _ _) (by decide) rfl (fun ls hl => ?_)
      refine lv_goto (tgt := 23) hx hb dL_law_1106 (by decide) ?_
      cases h
      exact kn _ _ _ (lv_sub hl [0, 3, 4, 5, 6] rfl) hw
    · replace h := ite_t hc h
      refine lv_aload_n hx hb dL_law_560 rfl (lv_at hl 3 rfl) ?_
      refine lv_iconst (v := Int32.ofInt (0)) hx hb dL_law_561 rfl ?_
      replace h := bnd h
      obtain ⟨v6, e6, h⟩ := h
      refine o_lald hx hb hi hw e6 dL_law_562 ?_
      refine lv_iload hx hb dL_law_563 (lv_at hl 0 rfl) ?_
      replace h := bnd h
      obtain ⟨v7, e7, h⟩ := h
      refine o_i2l hx hb e7 dL_law_565 ?_
      replace h := bnd h
      obtain ⟨_, hg, h⟩ := h
      refine o_lcmp_eq (tgt := 572) hx hb hg dL_law_566 dL_law_567 (by decide) (fun hc => ?_) (fun hc => ?_)
      · replace h := ite_t hc h
        refine lv_goto (tgt := 1103) hx hb dL_law_572 (by decide) ?_
        refine lv_iinc (v := Int32.ofInt (i9 + 4)) (lv' := [(4, .int (Int32.ofInt (i9 + 4))), (6, .int (Int32.ofInt v3)), (5, .int (Int32.ofInt v1)), (3, .ref (adr 48)), (2, .ref (adr 36)), (1, .ref (adr 0)), (0, .ref b)]) hx hb dL_law_1103 hl (k := 2) rfl (inc_o _ _) (by decide) rfl (fun ls hl => ?_)
        refine lv_goto (tgt := 23) hx hb dL_law_1106 (by decide) ?_
        cases h
        exact kn _ _ _ (lv_sub hl [0, 3, 4, 5, 6] rfl) hw
      · replace h := ite_f hc h
        refine lv_iconst (v := Int32.ofInt (0)) hx hb dL_law_570 rfl ?_
        cases h
  · replace h := ite_f hc h
    refine lv_iconst (v := Int32.ofInt (0)) hx hb dL_law_553 rfl ?_
    cases h
theorem q_759 : Cond.methodLink RL 102 yL_factor ∈ uU := uU_in (by decide +kernel) (by decide +kernel)
theorem q_760 : Cond.static yL_factor ∈ uU := uU_in (by decide +kernel) (by decide +kernel)
theorem q_761 : Cond.initialized yL_factor.cls ∈ uU := uU_in (by decide +kernel) (by decide +kernel)
theorem q_762 : Cond.codeWith yL_factor cL_factor 4 (some .int) [(0, 9, 12, 19)] ∈ uU := uU_in (by decide +kernel) (by decide +kernel)
theorem q_763 : Cond.methodLink RL 104 yX8_factor ∈ uU := uU_in (by decide +kernel) (by decide +kernel)
theorem q_764 : Cond.instanceMethod yX8_factor ∈ uU := uU_in (by decide +kernel) (by decide +kernel)
theorem q_765 : Cond.selects yX8_factor.cls yX8_factor yX8_factor ∈ uU := uU_in (by decide +kernel) (by decide +kernel)
theorem q_766 : Cond.initialized yX8_factor.cls ∈ uU := uU_in (by decide +kernel) (by decide +kernel)
theorem q_767 : Cond.code yX8_factor cX8_factor 2 (some .int) ∈ uU := uU_in (by decide +kernel) (by decide +kernel)
def lc_7 (n : Nat) (x1 x2 x3 : Int) (M : MI) : Option MI :=
  Option.bind (fL_factor x1 M) fun (v1, M2) =>
  Option.bind (f_X8_factor x1 M2) fun (v3, M4) =>
  Option.bind (f_X8_thrown M4) fun v5 =>
  Option.bind (gI v5 v1) fun _ =>
  if v5 = v1 then
    Option.bind (gI v1 0) fun _ =>
    if v1 = 0 then
      Option.bind (odJ M4 48 (0)) fun v6 =>
      Option.bind (gI v3 0) fun v7 =>
      Option.bind (gJ v6 v3) fun _ =>
      if v6 = v3 then
        some M4
      else
        none
    else
      some M4
  else
    none
set_option maxRecDepth 100000 in
set_option maxHeartbeats 8000000 in
theorem lb_7 {p : Program} {l : Launch} {e : Env} {s : State} {m : MethodId} {below : List Frame} {meth : Method} {c : Code} {b L9 : Nat} {xs : Nat → Int32} {G : gG} {A : Nat → Prop} {adr : Nat → Nat} {cells slots : Nat} {i9 x1 x2 x3 : Int} {n : Nat} {M M9 : MI} (hl0 : l.stackTraces = false) (hx : p.tables.exec = Jvm.exec) (hb : c.code = cL_law) (hml : c.maxLocals = 7) (hown : s.vm.findClass RL = some m.cls) (hts : ∀ w ∈ uU, w.before #[Value.ref b] s = true) (hXs : va_X b L9 xs s s.heap) (hbl : b < s.heap.size) (hbA : ¬ A b) (hL9 : L9 ≤ 2048) (hY : tY A s s.heap) (hi : adi adr) (hc9 : cells + 8 ≤ room_1.cells) (hs9 : slots + 48 ≤ room_1.slots) (h09 : 0 ≤ i9) (h19 : i9 + 4 ≤ L9) (hx1 : xs (i9 + 1).toNat = Int32.ofInt x1) (hx2 : xs (i9 + 2).toNat = Int32.ofInt x2) (hx3 : xs (i9 + 3).toNat = Int32.ofInt x3) (h : lc_7 n x1 x2 x3 M = some M9)
    (kn : ∀ (ls : Array Slot) (H : Heap) (locs : List Loc), lv_has ls 7 [(4, .int (Int32.ofInt (i9 + 4))), (3, .ref (adr 48)), (2, .ref (adr 36)), (1, .ref (adr 0)), (0, .ref b)] → wH G A s.heap s (LL adr) (wf G adr (tm M9)) H locs → W p l e room_1 s m #[Value.ref b] below meth c H locs (cells + 1) (slots + 6) (lw_Z below #[Value.ref b] s) (F0 m 23 ls []))
    {ls : Array Slot} {H : Heap} {locs : List Loc} (hl : lv_has ls 7 [(4, .int (Int32.ofInt i9)), (3, .ref (adr 48)), (2, .ref (adr 36)), (1, .ref (adr 0)), (0, .ref b)]) (hw : wH G A s.heap s (LL adr) (wf G adr (tm M)) H locs) : W p l e room_1 s m #[Value.ref b] below meth c H locs cells slots (lw_Z below #[Value.ref b] s) (F0 m 575 ls []) := by
  have fx : CallFix p m c cL_law 7 s #[Value.ref b] uU RL := ⟨hx, hb, hml, hown, hts⟩
  unfold lc_7 at h
  refine lv_aload_n hx hb dL_law_575 rfl (lv_at hl 3 rfl) ?_
  refine lv_aload_n hx hb dL_law_576 rfl (lv_at hl 4 rfl) ?_
  refine lv_iload hx hb dL_law_577 (lv_at hl 0 rfl) ?_
  refine lv_iconst (v := Int32.ofInt (1)) hx hb dL_law_579 rfl ?_
  refine o_iadd hx hb dL_law_580 ?_
  refine o_sld (x := x1) hx hb hXs hbl hbA hw hL9 (by omega) (by omega) hx1 dL_law_581 ?_
  refine lv_aload_n hx hb dL_law_582 rfl (lv_at hl 1 rfl) ?_
  replace h := bnd h
  obtain ⟨⟨v1, M2⟩, e1, h⟩ := h
  refine hy_callSi (c1 := cells + 1) (s1 := slots + 6) (As := [.ref (adr 0), .int (Int32.ofInt x1), .ref (adr 48)]) (rest := []) fx hY hw (cc_L_factor (l := l) (G := G) hl0 hi e1) (h_cS 3 hts q_759 q_760 q_761 q_762 rfl rfl (by decide) (by decide)) hl.1 rfl (lv_room (Nat.le_of_ble_eq_true rfl)) dL_law_583 ⟨by omega, by omega⟩ rfl rfl (fun H locs hw => ?_)
  refine lv_istore (lv' := [(5, .int (Int32.ofInt v1)), (4, .int (Int32.ofInt i9)), (3, .ref (adr 48)), (2, .ref (adr 36)), (1, .ref (adr 0)), (0, .ref b)]) hx hb dL_law_586 hl (by decide) rfl (fun ls hl => ?_)
  refine lv_aload_n hx hb dL_law_588 rfl (lv_at hl 3 rfl) ?_
  refine lv_aload_n hx hb dL_law_589 rfl (lv_at hl 5 rfl) ?_
  refine lv_iload hx hb dL_law_590 (lv_at hl 1 rfl) ?_
  refine lv_iconst (v := Int32.ofInt (1)) hx hb dL_law_592 rfl ?_
  refine o_iadd hx hb dL_law_593 ?_
  refine o_sld (x := x1) hx hb hXs hbl hbA hw hL9 (by omega) (by omega) hx1 dL_law_594 ?_
  replace h := bnd h
  obtain ⟨⟨v3, M4⟩, e3, h⟩ := h
  refine n_callVi (k := 36) (As := [.int (Int32.ofInt x1)]) (rest := []) fx hi hw (cc_X8_factor (l := l) (G := G) (sz := H.size) hi e3) (by decide) rfl rfl (w_cV 1 hts q_763 q_764 q_765 q_766 q_767 rfl rfl (by decide) (by decide)) ⟨by omega, by omega⟩ hl.1 rfl (lv_room (Nat.le_of_ble_eq_true rfl)) dL_law_595 (fun H locs hw => ?_)
  refine lv_istore (lv' := [(6, .int (Int32.ofInt v3)), (5, .int (Int32.ofInt v1)), (4, .int (Int32.ofInt i9)), (3, .ref (adr 48)), (2, .ref (adr 36)), (1, .ref (adr 0)), (0, .ref b)]) hx hb dL_law_598 hl (by decide) rfl (fun ls hl => ?_)
  refine lv_aload_n hx hb dL_law_600 rfl (lv_at hl 4 rfl) ?_
  replace h := bnd h
  obtain ⟨v5, e5, h⟩ := h
  refine n_callVi (k := 36) (As := []) (rest := []) fx hi hw (cc_X8_thrown (l := l) (G := G) (sz := H.size) hi e5) (by decide) rfl rfl (w_cV 0 hts q_700 q_701 q_702 q_703 q_704 rfl rfl (by decide) (by decide)) ⟨by omega, by omega⟩ hl.1 rfl (lv_room (Nat.le_of_ble_eq_true rfl)) dL_law_601 (fun H locs hw => ?_)
  refine lv_iload hx hb dL_law_604 (lv_at hl 1 rfl) ?_
  replace h := bnd h
  obtain ⟨_, hg, h⟩ := h
  refine o_icmp_eq (tgt := 611) hx hb hg dL_law_606 (by decide) (fun hc => ?_) (fun hc => ?_)
  · replace h := ite_t hc h
    refine lv_iload hx hb dL_law_611 (lv_at hl 1 rfl) ?_
    replace h := bnd h
    obtain ⟨_, hg, h⟩ := h
    refine o_if_ne (tgt := 628) hx hb hg dL_law_613 (by decide) (fun hc => ?_) (fun hc => ?_)
    · replace h := ite_f hc h
      refine lv_goto (tgt := 1103) hx hb dL_law_628 (by decide) ?_
      refine lv_iinc (v := Int32.ofInt (i9 + 4)) (lv' := [(4, .int (Int32.ofInt (i9 + 4))), (6, .int (Int32.ofInt v3)), (5, .int (Int32.ofInt v1)), (3, .ref (adr 48)), (2, .ref (adr 36)), (1, .ref (adr 0)), (0, .ref b)]) hx hb dL_law_1103 hl (k := 2) rfl (inc_o _ _) (by decide) rfl (fun ls hl => ?_)
      refine lv_goto (tgt := 23) hx hb dL_law_1106 (by decide) ?_
      cases h
      exact kn _ _ _ (lv_sub hl [0, 3, 4, 5, 6] rfl) hw
    · replace h := ite_t hc h
      refine lv_aload_n hx hb dL_law_616 rfl (lv_at hl 3 rfl) ?_
      refine lv_iconst (v := Int32.ofInt (0)) hx hb dL_law_617 rfl ?_
      replace h := bnd h
      obtain ⟨v6, e6, h⟩ := h
      refine o_lald hx hb hi hw e6 dL_law_618 ?_
      refine lv_iload hx hb dL_law_619 (lv_at hl 0 rfl) ?_
      replace h := bnd h
      obtain ⟨v7, e7, h⟩ := h
      refine o_i2l hx hb e7 dL_law_621 ?_
      replace h := bnd h
      obtain ⟨_, hg, h⟩ := h
      refine o_lcmp_eq (tgt := 628) hx hb hg dL_law_622 dL_law_623 (by decide) (fun hc => ?_) (fun hc => ?_)
      · replace h := ite_t hc h
        refine lv_goto (tgt := 1103) hx hb dL_law_628 (by decide) ?_
        refine lv_iinc (v := Int32.ofInt (i9 + 4)) (lv' := [(4, .int (Int32.ofInt (i9 + 4))), (6, .int (Int32.ofInt v3)), (5, .int (Int32.ofInt v1)), (3, .ref (adr 48)), (2, .ref (adr 36)), (1, .ref (adr 0)), (0, .ref b)]) hx hb dL_law_1103 hl (k := 2) rfl (inc_o _ _) (by decide) rfl (fun ls hl => ?_)
        refine lv_goto (tgt := 23) hx hb dL_law_1106 (by decide) ?_
        cases h
        exact kn _ _ _ (lv_sub hl [0, 3, 4, 5, 6] rfl) hw
      · replace h := ite_f hc h
        refine lv_iconst (v := Int32.ofInt (0)) hx hb dL_law_626 rfl ?_
        cases h
  · replace h := ite_f hc h
    refine lv_iconst (v := Int32.ofInt (0)) hx hb dL_law_609 rfl ?_
    cases h
theorem q_768 : Cond.methodLink RL 105 yL_multiplicity ∈ uU := uU_in (by decide +kernel) (by decide +kernel)
theorem q_769 : Cond.static yL_multiplicity ∈ uU := uU_in (by decide +kernel) (by decide +kernel)
theorem q_770 : Cond.initialized yL_multiplicity.cls ∈ uU := uU_in (by decide +kernel) (by decide +kernel)
theorem q_771 : Cond.codeWith yL_multiplicity cL_multiplicity 4 (some .int) [(0, 9, 12, 19)] ∈ uU := uU_in (by decide +kernel) (by decide +kernel)
theorem q_772 : Cond.methodLink RL 107 yX8_multiplicity ∈ uU := uU_in (by decide +kernel) (by decide +kernel)
theorem q_773 : Cond.instanceMethod yX8_multiplicity ∈ uU := uU_in (by decide +kernel) (by decide +kernel)
theorem q_774 : Cond.selects yX8_multiplicity.cls yX8_multiplicity yX8_multiplicity ∈ uU := uU_in (by decide +kernel) (by decide +kernel)
theorem q_775 : Cond.initialized yX8_multiplicity.cls ∈ uU := uU_in (by decide +kernel) (by decide +kernel)
theorem q_776 : Cond.code yX8_multiplicity cX8_multiplicity 2 (some .int) ∈ uU := uU_in (by decide +kernel) (by decide +kernel)
def lc_8 (n : Nat) (x1 x2 x3 : Int) (M : MI) : Option MI :=
  Option.bind (fL_multiplicity x1 M) fun (v1, M2) =>
  Option.bind (f_X8_multiplicity x1 M2) fun (v3, M4) =>
  Option.bind (f_X8_thrown M4) fun v5 =>
  Option.bind (gI v5 v1) fun _ =>
  if v5 = v1 then
    Option.bind (gI v1 0) fun _ =>
    if v1 = 0 then
      Option.bind (odJ M4 48 (0)) fun v6 =>
      Option.bind (gI v3 0) fun v7 =>
      Option.bind (gJ v6 v3) fun _ =>
      if v6 = v3 then
        some M4
      else
        none
    else
      some M4
  else
    none
set_option maxRecDepth 100000 in
set_option maxHeartbeats 8000000 in
theorem lb_8 {p : Program} {l : Launch} {e : Env} {s : State} {m : MethodId} {below : List Frame} {meth : Method} {c : Code} {b L9 : Nat} {xs : Nat → Int32} {G : gG} {A : Nat → Prop} {adr : Nat → Nat} {cells slots : Nat} {i9 x1 x2 x3 : Int} {n : Nat} {M M9 : MI} (hl0 : l.stackTraces = false) (hx : p.tables.exec = Jvm.exec) (hb : c.code = cL_law) (hml : c.maxLocals = 7) (hown : s.vm.findClass RL = some m.cls) (hts : ∀ w ∈ uU, w.before #[Value.ref b] s = true) (hXs : va_X b L9 xs s s.heap) (hbl : b < s.heap.size) (hbA : ¬ A b) (hL9 : L9 ≤ 2048) (hY : tY A s s.heap) (hi : adi adr) (hc9 : cells + 8 ≤ room_1.cells) (hs9 : slots + 48 ≤ room_1.slots) (h09 : 0 ≤ i9) (h19 : i9 + 4 ≤ L9) (hx1 : xs (i9 + 1).toNat = Int32.ofInt x1) (hx2 : xs (i9 + 2).toNat = Int32.ofInt x2) (hx3 : xs (i9 + 3).toNat = Int32.ofInt x3) (h : lc_8 n x1 x2 x3 M = some M9)
    (kn : ∀ (ls : Array Slot) (H : Heap) (locs : List Loc), lv_has ls 7 [(4, .int (Int32.ofInt (i9 + 4))), (3, .ref (adr 48)), (2, .ref (adr 36)), (1, .ref (adr 0)), (0, .ref b)] → wH G A s.heap s (LL adr) (wf G adr (tm M9)) H locs → W p l e room_1 s m #[Value.ref b] below meth c H locs (cells + 1) (slots + 6) (lw_Z below #[Value.ref b] s) (F0 m 23 ls []))
    {ls : Array Slot} {H : Heap} {locs : List Loc} (hl : lv_has ls 7 [(4, .int (Int32.ofInt i9)), (3, .ref (adr 48)), (2, .ref (adr 36)), (1, .ref (adr 0)), (0, .ref b)]) (hw : wH G A s.heap s (LL adr) (wf G adr (tm M)) H locs) : W p l e room_1 s m #[Value.ref b] below meth c H locs cells slots (lw_Z below #[Value.ref b] s) (F0 m 631 ls []) := by
  have fx : CallFix p m c cL_law 7 s #[Value.ref b] uU RL := ⟨hx, hb, hml, hown, hts⟩
  unfold lc_8 at h
  refine lv_aload_n hx hb dL_law_631 rfl (lv_at hl 3 rfl) ?_
  refine lv_aload_n hx hb dL_law_632 rfl (lv_at hl 4 rfl) ?_
  refine lv_iload hx hb dL_law_633 (lv_at hl 0 rfl) ?_
  refine lv_iconst (v := Int32.ofInt (1)) hx hb dL_law_635 rfl ?_
  refine o_iadd hx hb dL_law_636 ?_
  refine o_sld (x := x1) hx hb hXs hbl hbA hw hL9 (by omega) (by omega) hx1 dL_law_637 ?_
  refine lv_aload_n hx hb dL_law_638 rfl (lv_at hl 1 rfl) ?_
  replace h := bnd h
  obtain ⟨⟨v1, M2⟩, e1, h⟩ := h
  refine hy_callSi (c1 := cells + 1) (s1 := slots + 6) (As := [.ref (adr 0), .int (Int32.ofInt x1), .ref (adr 48)]) (rest := []) fx hY hw (cc_L_multiplicity (l := l) (G := G) hl0 hi e1) (h_cS 3 hts q_768 q_769 q_770 q_771 rfl rfl (by decide) (by decide)) hl.1 rfl (lv_room (Nat.le_of_ble_eq_true rfl)) dL_law_639 ⟨by omega, by omega⟩ rfl rfl (fun H locs hw => ?_)
  refine lv_istore (lv' := [(5, .int (Int32.ofInt v1)), (4, .int (Int32.ofInt i9)), (3, .ref (adr 48)), (2, .ref (adr 36)), (1, .ref (adr 0)), (0, .ref b)]) hx hb dL_law_642 hl (by decide) rfl (fun ls hl => ?_)
  refine lv_aload_n hx hb dL_law_644 rfl (lv_at hl 3 rfl) ?_
  refine lv_aload_n hx hb dL_law_645 rfl (lv_at hl 5 rfl) ?_
  refine lv_iload hx hb dL_law_646 (lv_at hl 1 rfl) ?_
  refine lv_iconst (v := Int32.ofInt (1)) hx hb dL_law_648 rfl ?_
  refine o_iadd hx hb dL_law_649 ?_
  refine o_sld (x := x1) hx hb hXs hbl hbA hw hL9 (by omega) (by omega) hx1 dL_law_650 ?_
  replace h := bnd h
  obtain ⟨⟨v3, M4⟩, e3, h⟩ := h
  refine n_callVi (k := 36) (As := [.int (Int32.ofInt x1)]) (rest := []) fx hi hw (cc_X8_multiplicity (l := l) (G := G) (sz := H.size) hi e3) (by decide) rfl rfl (w_cV 1 hts q_772 q_773 q_774 q_775 q_776 rfl rfl (by decide) (by decide)) ⟨by omega, by omega⟩ hl.1 rfl (lv_room (Nat.le_of_ble_eq_true rfl)) dL_law_651 (fun H locs hw => ?_)
  refine lv_istore (lv' := [(6, .int (Int32.ofInt v3)), (5, .int (Int32.ofInt v1)), (4, .int (Int32.ofInt i9)), (3, .ref (adr 48)), (2, .ref (adr 36)), (1, .ref (adr 0)), (0, .ref b)]) hx hb dL_law_654 hl (by decide) rfl (fun ls hl => ?_)
  refine lv_aload_n hx hb dL_law_656 rfl (lv_at hl 4 rfl) ?_
  replace h := bnd h
  obtain ⟨v5, e5, h⟩ := h
  refine n_callVi (k := 36) (As := []) (rest := []) fx hi hw (cc_X8_thrown (l := l) (G := G) (sz := H.size) hi e5) (by decide) rfl rfl (w_cV 0 hts q_700 q_701 q_702 q_703 q_704 rfl rfl (by decide) (by decide)) ⟨by omega, by omega⟩ hl.1 rfl (lv_room (Nat.le_of_ble_eq_true rfl)) dL_law_657 (fun H locs hw => ?_)
  refine lv_iload hx hb dL_law_660 (lv_at hl 1 rfl) ?_
  replace h := bnd h
  obtain ⟨_, hg, h⟩ := h
  refine o_icmp_eq (tgt := 667) hx hb hg dL_law_662 (by decide) (fun hc => ?_) (fun hc => ?_)
  · replace h := ite_t hc h
    refine lv_iload hx hb dL_law_667 (lv_at hl 1 rfl) ?_
    replace h := bnd h
    obtain ⟨_, hg, h⟩ := h
    refine o_if_ne (tgt := 684) hx hb hg dL_law_669 (by decide) (fun hc => ?_) (fun hc => ?_)
    · replace h := ite_f hc h
      refine lv_goto (tgt := 1103) hx hb dL_law_684 (by decide) ?_
      refine lv_iinc (v := Int32.ofInt (i9 + 4)) (lv' := [(4, .int (Int32.ofInt (i9 + 4))), (6, .int (Int32.ofInt v3)), (5, .int (Int32.ofInt v1)), (3, .ref (adr 48)), (2, .ref (adr 36)), (1, .ref (adr 0)), (0, .ref b)]) hx hb dL_law_1103 hl (k := 2) rfl (inc_o _ _) (by decide) rfl (fun ls hl => ?_)
      refine lv_goto (tgt := 23) hx hb dL_law_1106 (by decide) ?_
      cases h
      exact kn _ _ _ (lv_sub hl [0, 3, 4, 5, 6] rfl) hw
    · replace h := ite_t hc h
      refine lv_aload_n hx hb dL_law_672 rfl (lv_at hl 3 rfl) ?_
      refine lv_iconst (v := Int32.ofInt (0)) hx hb dL_law_673 rfl ?_
      replace h := bnd h
      obtain ⟨v6, e6, h⟩ := h
      refine o_lald hx hb hi hw e6 dL_law_674 ?_
      refine lv_iload hx hb dL_law_675 (lv_at hl 0 rfl) ?_
      replace h := bnd h
      obtain ⟨v7, e7, h⟩ := h
      refine o_i2l hx hb e7 dL_law_677 ?_
      replace h := bnd h
      obtain ⟨_, hg, h⟩ := h
      refine o_lcmp_eq (tgt := 684) hx hb hg dL_law_678 dL_law_679 (by decide) (fun hc => ?_) (fun hc => ?_)
      · replace h := ite_t hc h
        refine lv_goto (tgt := 1103) hx hb dL_law_684 (by decide) ?_
        refine lv_iinc (v := Int32.ofInt (i9 + 4)) (lv' := [(4, .int (Int32.ofInt (i9 + 4))), (6, .int (Int32.ofInt v3)), (5, .int (Int32.ofInt v1)), (3, .ref (adr 48)), (2, .ref (adr 36)), (1, .ref (adr 0)), (0, .ref b)]) hx hb dL_law_1103 hl (k := 2) rfl (inc_o _ _) (by decide) rfl (fun ls hl => ?_)
        refine lv_goto (tgt := 23) hx hb dL_law_1106 (by decide) ?_
        cases h
        exact kn _ _ _ (lv_sub hl [0, 3, 4, 5, 6] rfl) hw
      · replace h := ite_f hc h
        refine lv_iconst (v := Int32.ofInt (0)) hx hb dL_law_682 rfl ?_
        cases h
  · replace h := ite_f hc h
    refine lv_iconst (v := Int32.ofInt (0)) hx hb dL_law_665 rfl ?_
    cases h
theorem q_777 : Cond.methodLink RL 108 yL_content ∈ uU := uU_in (by decide +kernel) (by decide +kernel)
theorem q_778 : Cond.static yL_content ∈ uU := uU_in (by decide +kernel) (by decide +kernel)
theorem q_779 : Cond.initialized yL_content.cls ∈ uU := uU_in (by decide +kernel) (by decide +kernel)
theorem q_780 : Cond.codeWith yL_content cL_content 4 (some .int) [(0, 9, 12, 19)] ∈ uU := uU_in (by decide +kernel) (by decide +kernel)
theorem q_781 : Cond.methodLink RL 110 yX8_content ∈ uU := uU_in (by decide +kernel) (by decide +kernel)
theorem q_782 : Cond.instanceMethod yX8_content ∈ uU := uU_in (by decide +kernel) (by decide +kernel)
theorem q_783 : Cond.selects yX8_content.cls yX8_content yX8_content ∈ uU := uU_in (by decide +kernel) (by decide +kernel)
theorem q_784 : Cond.initialized yX8_content.cls ∈ uU := uU_in (by decide +kernel) (by decide +kernel)
theorem q_785 : Cond.code yX8_content cX8_content 2 (some .int) ∈ uU := uU_in (by decide +kernel) (by decide +kernel)
def lc_9 (n : Nat) (x1 x2 x3 : Int) (M : MI) : Option MI :=
  Option.bind (fL_content n x1 M) fun (v1, M2) =>
  Option.bind (f_X8_content n x1 M2) fun (v3, M4) =>
  Option.bind (f_X8_thrown M4) fun v5 =>
  Option.bind (gI v5 v1) fun _ =>
  if v5 = v1 then
    Option.bind (gI v1 0) fun _ =>
    if v1 = 0 then
      Option.bind (odJ M4 48 (0)) fun v6 =>
      Option.bind (gI v3 0) fun v7 =>
      Option.bind (gJ v6 v3) fun _ =>
      if v6 = v3 then
        some M4
      else
        none
    else
      some M4
  else
    none
set_option maxRecDepth 100000 in
set_option maxHeartbeats 8000000 in
theorem lb_9 {p : Program} {l : Launch} {e : Env} {s : State} {m : MethodId} {below : List Frame} {meth : Method} {c : Code} {b L9 : Nat} {xs : Nat → Int32} {G : gG} {A : Nat → Prop} {adr : Nat → Nat} {cells slots : Nat} {i9 x1 x2 x3 : Int} {n : Nat} {M M9 : MI} (hl0 : l.stackTraces = false) (hx : p.tables.exec = Jvm.exec) (hb : c.code = cL_law) (hml : c.maxLocals = 7) (hown : s.vm.findClass RL = some m.cls) (hts : ∀ w ∈ uU, w.before #[Value.ref b] s = true) (hXs : va_X b L9 xs s s.heap) (hbl : b < s.heap.size) (hbA : ¬ A b) (hL9 : L9 ≤ 2048) (hY : tY A s s.heap) (hi : adi adr) (hc9 : cells + 8 ≤ room_1.cells) (hs9 : slots + 48 ≤ room_1.slots) (h09 : 0 ≤ i9) (h19 : i9 + 4 ≤ L9) (hx1 : xs (i9 + 1).toNat = Int32.ofInt x1) (hx2 : xs (i9 + 2).toNat = Int32.ofInt x2) (hx3 : xs (i9 + 3).toNat = Int32.ofInt x3) (h : lc_9 n x1 x2 x3 M = some M9)
    (kn : ∀ (ls : Array Slot) (H : Heap) (locs : List Loc), lv_has ls 7 [(4, .int (Int32.ofInt (i9 + 4))), (3, .ref (adr 48)), (2, .ref (adr 36)), (1, .ref (adr 0)), (0, .ref b)] → wH G A s.heap s (LL adr) (wf G adr (tm M9)) H locs → W p l e room_1 s m #[Value.ref b] below meth c H locs (cells + 1) (slots + 6) (lw_Z below #[Value.ref b] s) (F0 m 23 ls []))
    {ls : Array Slot} {H : Heap} {locs : List Loc} (hl : lv_has ls 7 [(4, .int (Int32.ofInt i9)), (3, .ref (adr 48)), (2, .ref (adr 36)), (1, .ref (adr 0)), (0, .ref b)]) (hw : wH G A s.heap s (LL adr) (wf G adr (tm M)) H locs) : W p l e room_1 s m #[Value.ref b] below meth c H locs cells slots (lw_Z below #[Value.ref b] s) (F0 m 687 ls []) := by
  have fx : CallFix p m c cL_law 7 s #[Value.ref b] uU RL := ⟨hx, hb, hml, hown, hts⟩
  unfold lc_9 at h
  refine lv_aload_n hx hb dL_law_687 rfl (lv_at hl 3 rfl) ?_
  refine lv_aload_n hx hb dL_law_688 rfl (lv_at hl 4 rfl) ?_
  refine lv_iload hx hb dL_law_689 (lv_at hl 0 rfl) ?_
  refine lv_iconst (v := Int32.ofInt (1)) hx hb dL_law_691 rfl ?_
  refine o_iadd hx hb dL_law_692 ?_
  refine o_sld (x := x1) hx hb hXs hbl hbA hw hL9 (by omega) (by omega) hx1 dL_law_693 ?_
  refine lv_aload_n hx hb dL_law_694 rfl (lv_at hl 1 rfl) ?_
  replace h := bnd h
  obtain ⟨⟨v1, M2⟩, e1, h⟩ := h
  refine hy_callSi (c1 := cells + 1) (s1 := slots + 6) (As := [.ref (adr 0), .int (Int32.ofInt x1), .ref (adr 48)]) (rest := []) fx hY hw (cc_L_content (l := l) (G := G) hl0 hi e1) (h_cS 3 hts q_777 q_778 q_779 q_780 rfl rfl (by decide) (by decide)) hl.1 rfl (lv_room (Nat.le_of_ble_eq_true rfl)) dL_law_695 ⟨by omega, by omega⟩ rfl rfl (fun H locs hw => ?_)
  refine lv_istore (lv' := [(5, .int (Int32.ofInt v1)), (4, .int (Int32.ofInt i9)), (3, .ref (adr 48)), (2, .ref (adr 36)), (1, .ref (adr 0)), (0, .ref b)]) hx hb dL_law_698 hl (by decide) rfl (fun ls hl => ?_)
  refine lv_aload_n hx hb dL_law_700 rfl (lv_at hl 3 rfl) ?_
  refine lv_aload_n hx hb dL_law_701 rfl (lv_at hl 5 rfl) ?_
  refine lv_iload hx hb dL_law_702 (lv_at hl 1 rfl) ?_
  refine lv_iconst (v := Int32.ofInt (1)) hx hb dL_law_704 rfl ?_
  refine o_iadd hx hb dL_law_705 ?_
  refine o_sld (x := x1) hx hb hXs hbl hbA hw hL9 (by omega) (by omega) hx1 dL_law_706 ?_
  replace h := bnd h
  obtain ⟨⟨v3, M4⟩, e3, h⟩ := h
  refine n_callVi (k := 36) (As := [.int (Int32.ofInt x1)]) (rest := []) fx hi hw (cc_X8_content (l := l) (G := G) (sz := H.size) hi e3) (by decide) rfl rfl (w_cV 1 hts q_781 q_782 q_783 q_784 q_785 rfl rfl (by decide) (by decide)) ⟨by omega, by omega⟩ hl.1 rfl (lv_room (Nat.le_of_ble_eq_true rfl)) dL_law_707 (fun H locs hw => ?_)
  refine lv_istore (lv' := [(6, .int (Int32.ofInt v3)), (5, .int (Int32.ofInt v1)), (4, .int (Int32.ofInt i9)), (3, .ref (adr 48)), (2, .ref (adr 36)), (1, .ref (adr 0)), (0, .ref b)]) hx hb dL_law_710 hl (by decide) rfl (fun ls hl => ?_)
  refine lv_aload_n hx hb dL_law_712 rfl (lv_at hl 4 rfl) ?_
  replace h := bnd h
  obtain ⟨v5, e5, h⟩ := h
  refine n_callVi (k := 36) (As := []) (rest := []) fx hi hw (cc_X8_thrown (l := l) (G := G) (sz := H.size) hi e5) (by decide) rfl rfl (w_cV 0 hts q_700 q_701 q_702 q_703 q_704 rfl rfl (by decide) (by decide)) ⟨by omega, by omega⟩ hl.1 rfl (lv_room (Nat.le_of_ble_eq_true rfl)) dL_law_713 (fun H locs hw => ?_)
  refine lv_iload hx hb dL_law_716 (lv_at hl 1 rfl) ?_
  replace h := bnd h
  obtain ⟨_, hg, h⟩ := h
  refine o_icmp_eq (tgt := 723) hx hb hg dL_law_718 (by decide) (fun hc => ?_) (fun hc => ?_)
  · replace h := ite_t hc h
    refine lv_iload hx hb dL_law_723 (lv_at hl 1 rfl) ?_
    replace h := bnd h
    obtain ⟨_, hg, h⟩ := h
    refine o_if_ne (tgt := 740) hx hb hg dL_law_725 (by decide) (fun hc => ?_) (fun hc => ?_)
    · replace h := ite_f hc h
      refine lv_goto (tgt := 1103) hx hb dL_law_740 (by decide) ?_
      refine lv_iinc (v := Int32.ofInt (i9 + 4)) (lv' := [(4, .int (Int32.ofInt (i9 + 4))), (6, .int (Int32.ofInt v3)), (5, .int (Int32.ofInt v1)), (3, .ref (adr 48)), (2, .ref (adr 36)), (1, .ref (adr 0)), (0, .ref b)]) hx hb dL_law_1103 hl (k := 2) rfl (inc_o _ _) (by decide) rfl (fun ls hl => ?_)
      refine lv_goto (tgt := 23) hx hb dL_law_1106 (by decide) ?_
      cases h
      exact kn _ _ _ (lv_sub hl [0, 3, 4, 5, 6] rfl) hw
    · replace h := ite_t hc h
      refine lv_aload_n hx hb dL_law_728 rfl (lv_at hl 3 rfl) ?_
      refine lv_iconst (v := Int32.ofInt (0)) hx hb dL_law_729 rfl ?_
      replace h := bnd h
      obtain ⟨v6, e6, h⟩ := h
      refine o_lald hx hb hi hw e6 dL_law_730 ?_
      refine lv_iload hx hb dL_law_731 (lv_at hl 0 rfl) ?_
      replace h := bnd h
      obtain ⟨v7, e7, h⟩ := h
      refine o_i2l hx hb e7 dL_law_733 ?_
      replace h := bnd h
      obtain ⟨_, hg, h⟩ := h
      refine o_lcmp_eq (tgt := 740) hx hb hg dL_law_734 dL_law_735 (by decide) (fun hc => ?_) (fun hc => ?_)
      · replace h := ite_t hc h
        refine lv_goto (tgt := 1103) hx hb dL_law_740 (by decide) ?_
        refine lv_iinc (v := Int32.ofInt (i9 + 4)) (lv' := [(4, .int (Int32.ofInt (i9 + 4))), (6, .int (Int32.ofInt v3)), (5, .int (Int32.ofInt v1)), (3, .ref (adr 48)), (2, .ref (adr 36)), (1, .ref (adr 0)), (0, .ref b)]) hx hb dL_law_1103 hl (k := 2) rfl (inc_o _ _) (by decide) rfl (fun ls hl => ?_)
        refine lv_goto (tgt := 23) hx hb dL_law_1106 (by decide) ?_
        cases h
        exact kn _ _ _ (lv_sub hl [0, 3, 4, 5, 6] rfl) hw
      · replace h := ite_f hc h
        refine lv_iconst (v := Int32.ofInt (0)) hx hb dL_law_738 rfl ?_
        cases h
  · replace h := ite_f hc h
    refine lv_iconst (v := Int32.ofInt (0)) hx hb dL_law_721 rfl ?_
    cases h
theorem q_786 : Cond.methodLink RL 111 yL_root ∈ uU := uU_in (by decide +kernel) (by decide +kernel)
theorem q_787 : Cond.static yL_root ∈ uU := uU_in (by decide +kernel) (by decide +kernel)
theorem q_788 : Cond.initialized yL_root.cls ∈ uU := uU_in (by decide +kernel) (by decide +kernel)
theorem q_789 : Cond.codeWith yL_root cL_root 6 (some .int) [(0, 12, 15, 19), (0, 12, 19, 21)] ∈ uU := uU_in (by decide +kernel) (by decide +kernel)
theorem q_790 : Cond.methodLink RL 113 yX8_root ∈ uU := uU_in (by decide +kernel) (by decide +kernel)
theorem q_791 : Cond.instanceMethod yX8_root ∈ uU := uU_in (by decide +kernel) (by decide +kernel)
theorem q_792 : Cond.selects yX8_root.cls yX8_root yX8_root ∈ uU := uU_in (by decide +kernel) (by decide +kernel)
theorem q_793 : Cond.initialized yX8_root.cls ∈ uU := uU_in (by decide +kernel) (by decide +kernel)
theorem q_794 : Cond.code yX8_root cX8_root 4 (some .int) ∈ uU := uU_in (by decide +kernel) (by decide +kernel)
def lc_10 (n : Nat) (x1 x2 x3 : Int) (M : MI) : Option MI :=
  Option.bind (fL_root n x1 x2 x3 M) fun (v1, M2) =>
  Option.bind (f_X8_root n x1 x2 x3 M2) fun (v3, M4) =>
  Option.bind (f_X8_thrown M4) fun v5 =>
  Option.bind (gI v5 v1) fun _ =>
  if v5 = v1 then
    Option.bind (gI v1 0) fun _ =>
    if v1 = 0 then
      Option.bind (odJ M4 48 (0)) fun v6 =>
      Option.bind (gI v3 0) fun v7 =>
      Option.bind (gJ v6 v3) fun _ =>
      if v6 = v3 then
        some M4
      else
        none
    else
      some M4
  else
    none
set_option maxRecDepth 100000 in
set_option maxHeartbeats 8000000 in
theorem lb_10 {p : Program} {l : Launch} {e : Env} {s : State} {m : MethodId} {below : List Frame} {meth : Method} {c : Code} {b L9 : Nat} {xs : Nat → Int32} {G : gG} {A : Nat → Prop} {adr : Nat → Nat} {cells slots : Nat} {i9 x1 x2 x3 : Int} {n : Nat} {M M9 : MI} (hl0 : l.stackTraces = false) (hx : p.tables.exec = Jvm.exec) (hb : c.code = cL_law) (hml : c.maxLocals = 7) (hown : s.vm.findClass RL = some m.cls) (hts : ∀ w ∈ uU, w.before #[Value.ref b] s = true) (hXs : va_X b L9 xs s s.heap) (hbl : b < s.heap.size) (hbA : ¬ A b) (hL9 : L9 ≤ 2048) (hY : tY A s s.heap) (hi : adi adr) (hc9 : cells + 8 ≤ room_1.cells) (hs9 : slots + 48 ≤ room_1.slots) (h09 : 0 ≤ i9) (h19 : i9 + 4 ≤ L9) (hx1 : xs (i9 + 1).toNat = Int32.ofInt x1) (hx2 : xs (i9 + 2).toNat = Int32.ofInt x2) (hx3 : xs (i9 + 3).toNat = Int32.ofInt x3) (h : lc_10 n x1 x2 x3 M = some M9)
    (kn : ∀ (ls : Array Slot) (H : Heap) (locs : List Loc), lv_has ls 7 [(4, .int (Int32.ofInt (i9 + 4))), (3, .ref (adr 48)), (2, .ref (adr 36)), (1, .ref (adr 0)), (0, .ref b)] → wH G A s.heap s (LL adr) (wf G adr (tm M9)) H locs → W p l e room_1 s m #[Value.ref b] below meth c H locs (cells + 2) (slots + 12) (lw_Z below #[Value.ref b] s) (F0 m 23 ls []))
    {ls : Array Slot} {H : Heap} {locs : List Loc} (hl : lv_has ls 7 [(4, .int (Int32.ofInt i9)), (3, .ref (adr 48)), (2, .ref (adr 36)), (1, .ref (adr 0)), (0, .ref b)]) (hw : wH G A s.heap s (LL adr) (wf G adr (tm M)) H locs) : W p l e room_1 s m #[Value.ref b] below meth c H locs cells slots (lw_Z below #[Value.ref b] s) (F0 m 743 ls []) := by
  have fx : CallFix p m c cL_law 7 s #[Value.ref b] uU RL := ⟨hx, hb, hml, hown, hts⟩
  unfold lc_10 at h
  refine lv_aload_n hx hb dL_law_743 rfl (lv_at hl 3 rfl) ?_
  refine lv_aload_n hx hb dL_law_744 rfl (lv_at hl 4 rfl) ?_
  refine lv_iload hx hb dL_law_745 (lv_at hl 0 rfl) ?_
  refine lv_iconst (v := Int32.ofInt (1)) hx hb dL_law_747 rfl ?_
  refine o_iadd hx hb dL_law_748 ?_
  refine o_sld (x := x1) hx hb hXs hbl hbA hw hL9 (by omega) (by omega) hx1 dL_law_749 ?_
  refine lv_aload_n hx hb dL_law_750 rfl (lv_at hl 4 rfl) ?_
  refine lv_iload hx hb dL_law_751 (lv_at hl 0 rfl) ?_
  refine lv_iconst (v := Int32.ofInt (2)) hx hb dL_law_753 rfl ?_
  refine o_iadd hx hb dL_law_754 ?_
  refine o_sld (x := x2) hx hb hXs hbl hbA hw hL9 (by omega) (by omega) hx2 dL_law_755 ?_
  refine lv_aload_n hx hb dL_law_756 rfl (lv_at hl 4 rfl) ?_
  refine lv_iload hx hb dL_law_757 (lv_at hl 0 rfl) ?_
  refine lv_iconst (v := Int32.ofInt (3)) hx hb dL_law_759 rfl ?_
  refine o_iadd hx hb dL_law_760 ?_
  refine o_sld (x := x3) hx hb hXs hbl hbA hw hL9 (by omega) (by omega) hx3 dL_law_761 ?_
  refine lv_aload_n hx hb dL_law_762 rfl (lv_at hl 1 rfl) ?_
  replace h := bnd h
  obtain ⟨⟨v1, M2⟩, e1, h⟩ := h
  refine hy_callSi (c1 := cells + 2) (s1 := slots + 12) (As := [.ref (adr 0), .int (Int32.ofInt x1), .int (Int32.ofInt x2), .int (Int32.ofInt x3), .ref (adr 48)]) (rest := []) fx hY hw (cc_L_root (l := l) (G := G) hl0 hi e1) (h_cS 5 hts q_786 q_787 q_788 q_789 rfl rfl (by decide) (by decide)) hl.1 rfl (lv_room (Nat.le_of_ble_eq_true rfl)) dL_law_763 ⟨by omega, by omega⟩ rfl rfl (fun H locs hw => ?_)
  refine lv_istore (lv' := [(5, .int (Int32.ofInt v1)), (4, .int (Int32.ofInt i9)), (3, .ref (adr 48)), (2, .ref (adr 36)), (1, .ref (adr 0)), (0, .ref b)]) hx hb dL_law_766 hl (by decide) rfl (fun ls hl => ?_)
  refine lv_aload_n hx hb dL_law_768 rfl (lv_at hl 3 rfl) ?_
  refine lv_aload_n hx hb dL_law_769 rfl (lv_at hl 5 rfl) ?_
  refine lv_iload hx hb dL_law_770 (lv_at hl 1 rfl) ?_
  refine lv_iconst (v := Int32.ofInt (1)) hx hb dL_law_772 rfl ?_
  refine o_iadd hx hb dL_law_773 ?_
  refine o_sld (x := x1) hx hb hXs hbl hbA hw hL9 (by omega) (by omega) hx1 dL_law_774 ?_
  refine lv_aload_n hx hb dL_law_775 rfl (lv_at hl 5 rfl) ?_
  refine lv_iload hx hb dL_law_776 (lv_at hl 1 rfl) ?_
  refine lv_iconst (v := Int32.ofInt (2)) hx hb dL_law_778 rfl ?_
  refine o_iadd hx hb dL_law_779 ?_
  refine o_sld (x := x2) hx hb hXs hbl hbA hw hL9 (by omega) (by omega) hx2 dL_law_780 ?_
  refine lv_aload_n hx hb dL_law_781 rfl (lv_at hl 5 rfl) ?_
  refine lv_iload hx hb dL_law_782 (lv_at hl 1 rfl) ?_
  refine lv_iconst (v := Int32.ofInt (3)) hx hb dL_law_784 rfl ?_
  refine o_iadd hx hb dL_law_785 ?_
  refine o_sld (x := x3) hx hb hXs hbl hbA hw hL9 (by omega) (by omega) hx3 dL_law_786 ?_
  replace h := bnd h
  obtain ⟨⟨v3, M4⟩, e3, h⟩ := h
  refine n_callVi (k := 36) (As := [.int (Int32.ofInt x1), .int (Int32.ofInt x2), .int (Int32.ofInt x3)]) (rest := []) fx hi hw (cc_X8_root (l := l) (G := G) (sz := H.size) hi e3) (by decide) rfl rfl (w_cV 3 hts q_790 q_791 q_792 q_793 q_794 rfl rfl (by decide) (by decide)) ⟨by omega, by omega⟩ hl.1 rfl (lv_room (Nat.le_of_ble_eq_true rfl)) dL_law_787 (fun H locs hw => ?_)
  refine lv_istore (lv' := [(6, .int (Int32.ofInt v3)), (5, .int (Int32.ofInt v1)), (4, .int (Int32.ofInt i9)), (3, .ref (adr 48)), (2, .ref (adr 36)), (1, .ref (adr 0)), (0, .ref b)]) hx hb dL_law_790 hl (by decide) rfl (fun ls hl => ?_)
  refine lv_aload_n hx hb dL_law_792 rfl (lv_at hl 4 rfl) ?_
  replace h := bnd h
  obtain ⟨v5, e5, h⟩ := h
  refine n_callVi (k := 36) (As := []) (rest := []) fx hi hw (cc_X8_thrown (l := l) (G := G) (sz := H.size) hi e5) (by decide) rfl rfl (w_cV 0 hts q_700 q_701 q_702 q_703 q_704 rfl rfl (by decide) (by decide)) ⟨by omega, by omega⟩ hl.1 rfl (lv_room (Nat.le_of_ble_eq_true rfl)) dL_law_793 (fun H locs hw => ?_)
  refine lv_iload hx hb dL_law_796 (lv_at hl 1 rfl) ?_
  replace h := bnd h
  obtain ⟨_, hg, h⟩ := h
  refine o_icmp_eq (tgt := 803) hx hb hg dL_law_798 (by decide) (fun hc => ?_) (fun hc => ?_)
  · replace h := ite_t hc h
    refine lv_iload hx hb dL_law_803 (lv_at hl 1 rfl) ?_
    replace h := bnd h
    obtain ⟨_, hg, h⟩ := h
    refine o_if_ne (tgt := 820) hx hb hg dL_law_805 (by decide) (fun hc => ?_) (fun hc => ?_)
    · replace h := ite_f hc h
      refine lv_goto (tgt := 1103) hx hb dL_law_820 (by decide) ?_
      refine lv_iinc (v := Int32.ofInt (i9 + 4)) (lv' := [(4, .int (Int32.ofInt (i9 + 4))), (6, .int (Int32.ofInt v3)), (5, .int (Int32.ofInt v1)), (3, .ref (adr 48)), (2, .ref (adr 36)), (1, .ref (adr 0)), (0, .ref b)]) hx hb dL_law_1103 hl (k := 2) rfl (inc_o _ _) (by decide) rfl (fun ls hl => ?_)
      refine lv_goto (tgt := 23) hx hb dL_law_1106 (by decide) ?_
      cases h
      exact kn _ _ _ (lv_sub hl [0, 3, 4, 5, 6] rfl) hw
    · replace h := ite_t hc h
      refine lv_aload_n hx hb dL_law_808 rfl (lv_at hl 3 rfl) ?_
      refine lv_iconst (v := Int32.ofInt (0)) hx hb dL_law_809 rfl ?_
      replace h := bnd h
      obtain ⟨v6, e6, h⟩ := h
      refine o_lald hx hb hi hw e6 dL_law_810 ?_
      refine lv_iload hx hb dL_law_811 (lv_at hl 0 rfl) ?_
      replace h := bnd h
      obtain ⟨v7, e7, h⟩ := h
      refine o_i2l hx hb e7 dL_law_813 ?_
      replace h := bnd h
      obtain ⟨_, hg, h⟩ := h
      refine o_lcmp_eq (tgt := 820) hx hb hg dL_law_814 dL_law_815 (by decide) (fun hc => ?_) (fun hc => ?_)
      · replace h := ite_t hc h
        refine lv_goto (tgt := 1103) hx hb dL_law_820 (by decide) ?_
        refine lv_iinc (v := Int32.ofInt (i9 + 4)) (lv' := [(4, .int (Int32.ofInt (i9 + 4))), (6, .int (Int32.ofInt v3)), (5, .int (Int32.ofInt v1)), (3, .ref (adr 48)), (2, .ref (adr 36)), (1, .ref (adr 0)), (0, .ref b)]) hx hb dL_law_1103 hl (k := 2) rfl (inc_o _ _) (by decide) rfl (fun ls hl => ?_)
        refine lv_goto (tgt := 23) hx hb dL_law_1106 (by decide) ?_
        cases h
        exact kn _ _ _ (lv_sub hl [0, 3, 4, 5, 6] rfl) hw
      · replace h := ite_f hc h
        refine lv_iconst (v := Int32.ofInt (0)) hx hb dL_law_818 rfl ?_
        cases h
  · replace h := ite_f hc h
    refine lv_iconst (v := Int32.ofInt (0)) hx hb dL_law_801 rfl ?_
    cases h
theorem q_795 : Cond.methodLink RL 114 yL_roots ∈ uU := uU_in (by decide +kernel) (by decide +kernel)
theorem q_796 : Cond.static yL_roots ∈ uU := uU_in (by decide +kernel) (by decide +kernel)
theorem q_797 : Cond.initialized yL_roots.cls ∈ uU := uU_in (by decide +kernel) (by decide +kernel)
theorem q_798 : Cond.codeWith yL_roots cL_roots 4 (some .int) [(0, 9, 12, 19)] ∈ uU := uU_in (by decide +kernel) (by decide +kernel)
theorem q_799 : Cond.methodLink RL 116 yX8_roots ∈ uU := uU_in (by decide +kernel) (by decide +kernel)
theorem q_800 : Cond.instanceMethod yX8_roots ∈ uU := uU_in (by decide +kernel) (by decide +kernel)
theorem q_801 : Cond.selects yX8_roots.cls yX8_roots yX8_roots ∈ uU := uU_in (by decide +kernel) (by decide +kernel)
theorem q_802 : Cond.initialized yX8_roots.cls ∈ uU := uU_in (by decide +kernel) (by decide +kernel)
theorem q_803 : Cond.code yX8_roots cX8_roots 2 (some .int) ∈ uU := uU_in (by decide +kernel) (by decide +kernel)
def lc_11 (n : Nat) (x1 x2 x3 : Int) (M : MI) : Option MI :=
  Option.bind (fL_roots n x1 M) fun (v1, M2) =>
  Option.bind (f_X8_roots n x1 M2) fun (v3, M4) =>
  Option.bind (f_X8_thrown M4) fun v5 =>
  Option.bind (gI v5 v1) fun _ =>
  if v5 = v1 then
    Option.bind (gI v1 0) fun _ =>
    if v1 = 0 then
      Option.bind (odJ M4 48 (0)) fun v6 =>
      Option.bind (gI v3 0) fun v7 =>
      Option.bind (gJ v6 v3) fun _ =>
      if v6 = v3 then
        some M4
      else
        none
    else
      some M4
  else
    none
set_option maxRecDepth 100000 in
set_option maxHeartbeats 8000000 in
theorem lb_11 {p : Program} {l : Launch} {e : Env} {s : State} {m : MethodId} {below : List Frame} {meth : Method} {c : Code} {b L9 : Nat} {xs : Nat → Int32} {G : gG} {A : Nat → Prop} {adr : Nat → Nat} {cells slots : Nat} {i9 x1 x2 x3 : Int} {n : Nat} {M M9 : MI} (hl0 : l.stackTraces = false) (hx : p.tables.exec = Jvm.exec) (hb : c.code = cL_law) (hml : c.maxLocals = 7) (hown : s.vm.findClass RL = some m.cls) (hts : ∀ w ∈ uU, w.before #[Value.ref b] s = true) (hXs : va_X b L9 xs s s.heap) (hbl : b < s.heap.size) (hbA : ¬ A b) (hL9 : L9 ≤ 2048) (hY : tY A s s.heap) (hi : adi adr) (hc9 : cells + 8 ≤ room_1.cells) (hs9 : slots + 48 ≤ room_1.slots) (h09 : 0 ≤ i9) (h19 : i9 + 4 ≤ L9) (hx1 : xs (i9 + 1).toNat = Int32.ofInt x1) (hx2 : xs (i9 + 2).toNat = Int32.ofInt x2) (hx3 : xs (i9 + 3).toNat = Int32.ofInt x3) (h : lc_11 n x1 x2 x3 M = some M9)
    (kn : ∀ (ls : Array Slot) (H : Heap) (locs : List Loc), lv_has ls 7 [(4, .int (Int32.ofInt (i9 + 4))), (3, .ref (adr 48)), (2, .ref (adr 36)), (1, .ref (adr 0)), (0, .ref b)] → wH G A s.heap s (LL adr) (wf G adr (tm M9)) H locs → W p l e room_1 s m #[Value.ref b] below meth c H locs (cells + 1) (slots + 6) (lw_Z below #[Value.ref b] s) (F0 m 23 ls []))
    {ls : Array Slot} {H : Heap} {locs : List Loc} (hl : lv_has ls 7 [(4, .int (Int32.ofInt i9)), (3, .ref (adr 48)), (2, .ref (adr 36)), (1, .ref (adr 0)), (0, .ref b)]) (hw : wH G A s.heap s (LL adr) (wf G adr (tm M)) H locs) : W p l e room_1 s m #[Value.ref b] below meth c H locs cells slots (lw_Z below #[Value.ref b] s) (F0 m 823 ls []) := by
  have fx : CallFix p m c cL_law 7 s #[Value.ref b] uU RL := ⟨hx, hb, hml, hown, hts⟩
  unfold lc_11 at h
  refine lv_aload_n hx hb dL_law_823 rfl (lv_at hl 3 rfl) ?_
  refine lv_aload_n hx hb dL_law_824 rfl (lv_at hl 4 rfl) ?_
  refine lv_iload hx hb dL_law_825 (lv_at hl 0 rfl) ?_
  refine lv_iconst (v := Int32.ofInt (1)) hx hb dL_law_827 rfl ?_
  refine o_iadd hx hb dL_law_828 ?_
  refine o_sld (x := x1) hx hb hXs hbl hbA hw hL9 (by omega) (by omega) hx1 dL_law_829 ?_
  refine lv_aload_n hx hb dL_law_830 rfl (lv_at hl 1 rfl) ?_
  replace h := bnd h
  obtain ⟨⟨v1, M2⟩, e1, h⟩ := h
  refine hy_callSi (c1 := cells + 1) (s1 := slots + 6) (As := [.ref (adr 0), .int (Int32.ofInt x1), .ref (adr 48)]) (rest := []) fx hY hw (cc_L_roots (l := l) (G := G) hl0 hi e1) (h_cS 3 hts q_795 q_796 q_797 q_798 rfl rfl (by decide) (by decide)) hl.1 rfl (lv_room (Nat.le_of_ble_eq_true rfl)) dL_law_831 ⟨by omega, by omega⟩ rfl rfl (fun H locs hw => ?_)
  refine lv_istore (lv' := [(5, .int (Int32.ofInt v1)), (4, .int (Int32.ofInt i9)), (3, .ref (adr 48)), (2, .ref (adr 36)), (1, .ref (adr 0)), (0, .ref b)]) hx hb dL_law_834 hl (by decide) rfl (fun ls hl => ?_)
  refine lv_aload_n hx hb dL_law_836 rfl (lv_at hl 3 rfl) ?_
  refine lv_aload_n hx hb dL_law_837 rfl (lv_at hl 5 rfl) ?_
  refine lv_iload hx hb dL_law_838 (lv_at hl 1 rfl) ?_
  refine lv_iconst (v := Int32.ofInt (1)) hx hb dL_law_840 rfl ?_
  refine o_iadd hx hb dL_law_841 ?_
  refine o_sld (x := x1) hx hb hXs hbl hbA hw hL9 (by omega) (by omega) hx1 dL_law_842 ?_
  replace h := bnd h
  obtain ⟨⟨v3, M4⟩, e3, h⟩ := h
  refine n_callVi (k := 36) (As := [.int (Int32.ofInt x1)]) (rest := []) fx hi hw (cc_X8_roots (l := l) (G := G) (sz := H.size) hi e3) (by decide) rfl rfl (w_cV 1 hts q_799 q_800 q_801 q_802 q_803 rfl rfl (by decide) (by decide)) ⟨by omega, by omega⟩ hl.1 rfl (lv_room (Nat.le_of_ble_eq_true rfl)) dL_law_843 (fun H locs hw => ?_)
  refine lv_istore (lv' := [(6, .int (Int32.ofInt v3)), (5, .int (Int32.ofInt v1)), (4, .int (Int32.ofInt i9)), (3, .ref (adr 48)), (2, .ref (adr 36)), (1, .ref (adr 0)), (0, .ref b)]) hx hb dL_law_846 hl (by decide) rfl (fun ls hl => ?_)
  refine lv_aload_n hx hb dL_law_848 rfl (lv_at hl 4 rfl) ?_
  replace h := bnd h
  obtain ⟨v5, e5, h⟩ := h
  refine n_callVi (k := 36) (As := []) (rest := []) fx hi hw (cc_X8_thrown (l := l) (G := G) (sz := H.size) hi e5) (by decide) rfl rfl (w_cV 0 hts q_700 q_701 q_702 q_703 q_704 rfl rfl (by decide) (by decide)) ⟨by omega, by omega⟩ hl.1 rfl (lv_room (Nat.le_of_ble_eq_true rfl)) dL_law_849 (fun H locs hw => ?_)
  refine lv_iload hx hb dL_law_852 (lv_at hl 1 rfl) ?_
  replace h := bnd h
  obtain ⟨_, hg, h⟩ := h
  refine o_icmp_eq (tgt := 859) hx hb hg dL_law_854 (by decide) (fun hc => ?_) (fun hc => ?_)
  · replace h := ite_t hc h
    refine lv_iload hx hb dL_law_859 (lv_at hl 1 rfl) ?_
    replace h := bnd h
    obtain ⟨_, hg, h⟩ := h
    refine o_if_ne (tgt := 876) hx hb hg dL_law_861 (by decide) (fun hc => ?_) (fun hc => ?_)
    · replace h := ite_f hc h
      refine lv_goto (tgt := 1103) hx hb dL_law_876 (by decide) ?_
      refine lv_iinc (v := Int32.ofInt (i9 + 4)) (lv' := [(4, .int (Int32.ofInt (i9 + 4))), (6, .int (Int32.ofInt v3)), (5, .int (Int32.ofInt v1)), (3, .ref (adr 48)), (2, .ref (adr 36)), (1, .ref (adr 0)), (0, .ref b)]) hx hb dL_law_1103 hl (k := 2) rfl (inc_o _ _) (by decide) rfl (fun ls hl => ?_)
      refine lv_goto (tgt := 23) hx hb dL_law_1106 (by decide) ?_
      cases h
      exact kn _ _ _ (lv_sub hl [0, 3, 4, 5, 6] rfl) hw
    · replace h := ite_t hc h
      refine lv_aload_n hx hb dL_law_864 rfl (lv_at hl 3 rfl) ?_
      refine lv_iconst (v := Int32.ofInt (0)) hx hb dL_law_865 rfl ?_
      replace h := bnd h
      obtain ⟨v6, e6, h⟩ := h
      refine o_lald hx hb hi hw e6 dL_law_866 ?_
      refine lv_iload hx hb dL_law_867 (lv_at hl 0 rfl) ?_
      replace h := bnd h
      obtain ⟨v7, e7, h⟩ := h
      refine o_i2l hx hb e7 dL_law_869 ?_
      replace h := bnd h
      obtain ⟨_, hg, h⟩ := h
      refine o_lcmp_eq (tgt := 876) hx hb hg dL_law_870 dL_law_871 (by decide) (fun hc => ?_) (fun hc => ?_)
      · replace h := ite_t hc h
        refine lv_goto (tgt := 1103) hx hb dL_law_876 (by decide) ?_
        refine lv_iinc (v := Int32.ofInt (i9 + 4)) (lv' := [(4, .int (Int32.ofInt (i9 + 4))), (6, .int (Int32.ofInt v3)), (5, .int (Int32.ofInt v1)), (3, .ref (adr 48)), (2, .ref (adr 36)), (1, .ref (adr 0)), (0, .ref b)]) hx hb dL_law_1103 hl (k := 2) rfl (inc_o _ _) (by decide) rfl (fun ls hl => ?_)
        refine lv_goto (tgt := 23) hx hb dL_law_1106 (by decide) ?_
        cases h
        exact kn _ _ _ (lv_sub hl [0, 3, 4, 5, 6] rfl) hw
      · replace h := ite_f hc h
        refine lv_iconst (v := Int32.ofInt (0)) hx hb dL_law_874 rfl ?_
        cases h
  · replace h := ite_f hc h
    refine lv_iconst (v := Int32.ofInt (0)) hx hb dL_law_857 rfl ?_
    cases h
theorem q_804 : Cond.methodLink RL 117 yL_parts ∈ uU := uU_in (by decide +kernel) (by decide +kernel)
theorem q_805 : Cond.static yL_parts ∈ uU := uU_in (by decide +kernel) (by decide +kernel)
theorem q_806 : Cond.initialized yL_parts.cls ∈ uU := uU_in (by decide +kernel) (by decide +kernel)
theorem q_807 : Cond.codeWith yL_parts cL_parts 5 (some .int) [(0, 10, 13, 19), (0, 10, 17, 21)] ∈ uU := uU_in (by decide +kernel) (by decide +kernel)
theorem q_808 : Cond.methodLink RL 119 yX8_parts ∈ uU := uU_in (by decide +kernel) (by decide +kernel)
theorem q_809 : Cond.instanceMethod yX8_parts ∈ uU := uU_in (by decide +kernel) (by decide +kernel)
theorem q_810 : Cond.selects yX8_parts.cls yX8_parts yX8_parts ∈ uU := uU_in (by decide +kernel) (by decide +kernel)
theorem q_811 : Cond.initialized yX8_parts.cls ∈ uU := uU_in (by decide +kernel) (by decide +kernel)
theorem q_812 : Cond.code yX8_parts cX8_parts 8 (some .int) ∈ uU := uU_in (by decide +kernel) (by decide +kernel)
def lc_12 (n : Nat) (x1 x2 x3 : Int) (M : MI) : Option MI :=
  Option.bind (fL_parts n x1 x2 M) fun (v1, M2) =>
  Option.bind (f_X8_parts n x1 x2 M2) fun (v3, M4) =>
  Option.bind (f_X8_thrown M4) fun v5 =>
  Option.bind (gI v5 v1) fun _ =>
  if v5 = v1 then
    Option.bind (gI v1 0) fun _ =>
    if v1 = 0 then
      Option.bind (odJ M4 48 (0)) fun v6 =>
      Option.bind (gI v3 0) fun v7 =>
      Option.bind (gJ v6 v3) fun _ =>
      if v6 = v3 then
        some M4
      else
        none
    else
      some M4
  else
    none
set_option maxRecDepth 100000 in
set_option maxHeartbeats 8000000 in
theorem lb_12 {p : Program} {l : Launch} {e : Env} {s : State} {m : MethodId} {below : List Frame} {meth : Method} {c : Code} {b L9 : Nat} {xs : Nat → Int32} {G : gG} {A : Nat → Prop} {adr : Nat → Nat} {cells slots : Nat} {i9 x1 x2 x3 : Int} {n : Nat} {M M9 : MI} (hl0 : l.stackTraces = false) (hx : p.tables.exec = Jvm.exec) (hb : c.code = cL_law) (hml : c.maxLocals = 7) (hown : s.vm.findClass RL = some m.cls) (hts : ∀ w ∈ uU, w.before #[Value.ref b] s = true) (hXs : va_X b L9 xs s s.heap) (hbl : b < s.heap.size) (hbA : ¬ A b) (hL9 : L9 ≤ 2048) (hY : tY A s s.heap) (hi : adi adr) (hc9 : cells + 8 ≤ room_1.cells) (hs9 : slots + 48 ≤ room_1.slots) (h09 : 0 ≤ i9) (h19 : i9 + 4 ≤ L9) (hx1 : xs (i9 + 1).toNat = Int32.ofInt x1) (hx2 : xs (i9 + 2).toNat = Int32.ofInt x2) (hx3 : xs (i9 + 3).toNat = Int32.ofInt x3) (h : lc_12 n x1 x2 x3 M = some M9)
    (kn : ∀ (ls : Array Slot) (H : Heap) (locs : List Loc), lv_has ls 7 [(4, .int (Int32.ofInt (i9 + 4))), (3, .ref (adr 48)), (2, .ref (adr 36)), (1, .ref (adr 0)), (0, .ref b)] → wH G A s.heap s (LL adr) (wf G adr (tm M9)) H locs → W p l e room_1 s m #[Value.ref b] below meth c H locs (cells + 2) (slots + 12) (lw_Z below #[Value.ref b] s) (F0 m 23 ls []))
    {ls : Array Slot} {H : Heap} {locs : List Loc} (hl : lv_has ls 7 [(4, .int (Int32.ofInt i9)), (3, .ref (adr 48)), (2, .ref (adr 36)), (1, .ref (adr 0)), (0, .ref b)]) (hw : wH G A s.heap s (LL adr) (wf G adr (tm M)) H locs) : W p l e room_1 s m #[Value.ref b] below meth c H locs cells slots (lw_Z below #[Value.ref b] s) (F0 m 879 ls []) := by
  have fx : CallFix p m c cL_law 7 s #[Value.ref b] uU RL := ⟨hx, hb, hml, hown, hts⟩
  unfold lc_12 at h
  refine lv_aload_n hx hb dL_law_879 rfl (lv_at hl 3 rfl) ?_
  refine lv_aload_n hx hb dL_law_880 rfl (lv_at hl 4 rfl) ?_
  refine lv_iload hx hb dL_law_881 (lv_at hl 0 rfl) ?_
  refine lv_iconst (v := Int32.ofInt (1)) hx hb dL_law_883 rfl ?_
  refine o_iadd hx hb dL_law_884 ?_
  refine o_sld (x := x1) hx hb hXs hbl hbA hw hL9 (by omega) (by omega) hx1 dL_law_885 ?_
  refine lv_aload_n hx hb dL_law_886 rfl (lv_at hl 4 rfl) ?_
  refine lv_iload hx hb dL_law_887 (lv_at hl 0 rfl) ?_
  refine lv_iconst (v := Int32.ofInt (2)) hx hb dL_law_889 rfl ?_
  refine o_iadd hx hb dL_law_890 ?_
  refine o_sld (x := x2) hx hb hXs hbl hbA hw hL9 (by omega) (by omega) hx2 dL_law_891 ?_
  refine lv_aload_n hx hb dL_law_892 rfl (lv_at hl 1 rfl) ?_
  replace h := bnd h
  obtain ⟨⟨v1, M2⟩, e1, h⟩ := h
  refine hy_callSi (c1 := cells + 2) (s1 := slots + 12) (As := [.ref (adr 0), .int (Int32.ofInt x1), .int (Int32.ofInt x2), .ref (adr 48)]) (rest := []) fx hY hw (cc_L_parts (l := l) (G := G) hl0 hi e1) (h_cS 4 hts q_804 q_805 q_806 q_807 rfl rfl (by decide) (by decide)) hl.1 rfl (lv_room (Nat.le_of_ble_eq_true rfl)) dL_law_893 ⟨by omega, by omega⟩ rfl rfl (fun H locs hw => ?_)
  refine lv_istore (lv' := [(5, .int (Int32.ofInt v1)), (4, .int (Int32.ofInt i9)), (3, .ref (adr 48)), (2, .ref (adr 36)), (1, .ref (adr 0)), (0, .ref b)]) hx hb dL_law_896 hl (by decide) rfl (fun ls hl => ?_)
  refine lv_aload_n hx hb dL_law_898 rfl (lv_at hl 3 rfl) ?_
  refine lv_aload_n hx hb dL_law_899 rfl (lv_at hl 5 rfl) ?_
  refine lv_iload hx hb dL_law_900 (lv_at hl 1 rfl) ?_
  refine lv_iconst (v := Int32.ofInt (1)) hx hb dL_law_902 rfl ?_
  refine o_iadd hx hb dL_law_903 ?_
  refine o_sld (x := x1) hx hb hXs hbl hbA hw hL9 (by omega) (by omega) hx1 dL_law_904 ?_
  refine lv_aload_n hx hb dL_law_905 rfl (lv_at hl 5 rfl) ?_
  refine lv_iload hx hb dL_law_906 (lv_at hl 1 rfl) ?_
  refine lv_iconst (v := Int32.ofInt (2)) hx hb dL_law_908 rfl ?_
  refine o_iadd hx hb dL_law_909 ?_
  refine o_sld (x := x2) hx hb hXs hbl hbA hw hL9 (by omega) (by omega) hx2 dL_law_910 ?_
  replace h := bnd h
  obtain ⟨⟨v3, M4⟩, e3, h⟩ := h
  refine n_callVi (k := 36) (As := [.int (Int32.ofInt x1), .int (Int32.ofInt x2)]) (rest := []) fx hi hw (cc_X8_parts (l := l) (G := G) (sz := H.size) hi e3) (by decide) rfl rfl (w_cV 2 hts q_808 q_809 q_810 q_811 q_812 rfl rfl (by decide) (by decide)) ⟨by omega, by omega⟩ hl.1 rfl (lv_room (Nat.le_of_ble_eq_true rfl)) dL_law_911 (fun H locs hw => ?_)
  refine lv_istore (lv' := [(6, .int (Int32.ofInt v3)), (5, .int (Int32.ofInt v1)), (4, .int (Int32.ofInt i9)), (3, .ref (adr 48)), (2, .ref (adr 36)), (1, .ref (adr 0)), (0, .ref b)]) hx hb dL_law_914 hl (by decide) rfl (fun ls hl => ?_)
  refine lv_aload_n hx hb dL_law_916 rfl (lv_at hl 4 rfl) ?_
  replace h := bnd h
  obtain ⟨v5, e5, h⟩ := h
  refine n_callVi (k := 36) (As := []) (rest := []) fx hi hw (cc_X8_thrown (l := l) (G := G) (sz := H.size) hi e5) (by decide) rfl rfl (w_cV 0 hts q_700 q_701 q_702 q_703 q_704 rfl rfl (by decide) (by decide)) ⟨by omega, by omega⟩ hl.1 rfl (lv_room (Nat.le_of_ble_eq_true rfl)) dL_law_917 (fun H locs hw => ?_)
  refine lv_iload hx hb dL_law_920 (lv_at hl 1 rfl) ?_
  replace h := bnd h
  obtain ⟨_, hg, h⟩ := h
  refine o_icmp_eq (tgt := 927) hx hb hg dL_law_922 (by decide) (fun hc => ?_) (fun hc => ?_)
  · replace h := ite_t hc h
    refine lv_iload hx hb dL_law_927 (lv_at hl 1 rfl) ?_
    replace h := bnd h
    obtain ⟨_, hg, h⟩ := h
    refine o_if_ne (tgt := 944) hx hb hg dL_law_929 (by decide) (fun hc => ?_) (fun hc => ?_)
    · replace h := ite_f hc h
      refine lv_goto (tgt := 1103) hx hb dL_law_944 (by decide) ?_
      refine lv_iinc (v := Int32.ofInt (i9 + 4)) (lv' := [(4, .int (Int32.ofInt (i9 + 4))), (6, .int (Int32.ofInt v3)), (5, .int (Int32.ofInt v1)), (3, .ref (adr 48)), (2, .ref (adr 36)), (1, .ref (adr 0)), (0, .ref b)]) hx hb dL_law_1103 hl (k := 2) rfl (inc_o _ _) (by decide) rfl (fun ls hl => ?_)
      refine lv_goto (tgt := 23) hx hb dL_law_1106 (by decide) ?_
      cases h
      exact kn _ _ _ (lv_sub hl [0, 3, 4, 5, 6] rfl) hw
    · replace h := ite_t hc h
      refine lv_aload_n hx hb dL_law_932 rfl (lv_at hl 3 rfl) ?_
      refine lv_iconst (v := Int32.ofInt (0)) hx hb dL_law_933 rfl ?_
      replace h := bnd h
      obtain ⟨v6, e6, h⟩ := h
      refine o_lald hx hb hi hw e6 dL_law_934 ?_
      refine lv_iload hx hb dL_law_935 (lv_at hl 0 rfl) ?_
      replace h := bnd h
      obtain ⟨v7, e7, h⟩ := h
      refine o_i2l hx hb e7 dL_law_937 ?_
      replace h := bnd h
      obtain ⟨_, hg, h⟩ := h
      refine o_lcmp_eq (tgt := 944) hx hb hg dL_law_938 dL_law_939 (by decide) (fun hc => ?_) (fun hc => ?_)
      · replace h := ite_t hc h
        refine lv_goto (tgt := 1103) hx hb dL_law_944 (by decide) ?_
        refine lv_iinc (v := Int32.ofInt (i9 + 4)) (lv' := [(4, .int (Int32.ofInt (i9 + 4))), (6, .int (Int32.ofInt v3)), (5, .int (Int32.ofInt v1)), (3, .ref (adr 48)), (2, .ref (adr 36)), (1, .ref (adr 0)), (0, .ref b)]) hx hb dL_law_1103 hl (k := 2) rfl (inc_o _ _) (by decide) rfl (fun ls hl => ?_)
        refine lv_goto (tgt := 23) hx hb dL_law_1106 (by decide) ?_
        cases h
        exact kn _ _ _ (lv_sub hl [0, 3, 4, 5, 6] rfl) hw
      · replace h := ite_f hc h
        refine lv_iconst (v := Int32.ofInt (0)) hx hb dL_law_942 rfl ?_
        cases h
  · replace h := ite_f hc h
    refine lv_iconst (v := Int32.ofInt (0)) hx hb dL_law_925 rfl ?_
    cases h
theorem q_813 : Cond.methodLink RL 120 yL_squareFree ∈ uU := uU_in (by decide +kernel) (by decide +kernel)
theorem q_814 : Cond.static yL_squareFree ∈ uU := uU_in (by decide +kernel) (by decide +kernel)
theorem q_815 : Cond.initialized yL_squareFree.cls ∈ uU := uU_in (by decide +kernel) (by decide +kernel)
theorem q_816 : Cond.codeWith yL_squareFree cL_squareFree 4 (some .int) [(0, 16, 19, 19)] ∈ uU := uU_in (by decide +kernel) (by decide +kernel)
theorem q_817 : Cond.methodLink RL 122 yX8_squareFree ∈ uU := uU_in (by decide +kernel) (by decide +kernel)
theorem q_818 : Cond.instanceMethod yX8_squareFree ∈ uU := uU_in (by decide +kernel) (by decide +kernel)
theorem q_819 : Cond.selects yX8_squareFree.cls yX8_squareFree yX8_squareFree ∈ uU := uU_in (by decide +kernel) (by decide +kernel)
theorem q_820 : Cond.initialized yX8_squareFree.cls ∈ uU := uU_in (by decide +kernel) (by decide +kernel)
theorem q_821 : Cond.code yX8_squareFree cX8_squareFree 2 (some .boolean) ∈ uU := uU_in (by decide +kernel) (by decide +kernel)
def lc_13 (n : Nat) (x1 x2 x3 : Int) (M : MI) : Option MI :=
  Option.bind (fL_squareFree n x1 M) fun (v1, M2) =>
  Option.bind (f_X8_squareFree n x1 M2) fun (v3, M4) =>
  Option.bind (f_X8_thrown M4) fun v5 =>
  Option.bind (gI v5 v1) fun _ =>
  if v5 = v1 then
    Option.bind (gI v1 0) fun _ =>
    if v1 = 0 then
      Option.bind (odJ M4 48 (0)) fun v6 =>
      Option.bind (
        Option.bind (gI v3 0) fun _ =>
        if v3 = 0 then
          some (0)
        else
          some (1)) fun v7 =>
      Option.bind (gJ v6 v7) fun _ =>
      if v6 = v7 then
        some M4
      else
        none
    else
      some M4
  else
    none
set_option maxRecDepth 100000 in
set_option maxHeartbeats 8000000 in
theorem lb_13 {p : Program} {l : Launch} {e : Env} {s : State} {m : MethodId} {below : List Frame} {meth : Method} {c : Code} {b L9 : Nat} {xs : Nat → Int32} {G : gG} {A : Nat → Prop} {adr : Nat → Nat} {cells slots : Nat} {i9 x1 x2 x3 : Int} {n : Nat} {M M9 : MI} (hl0 : l.stackTraces = false) (hx : p.tables.exec = Jvm.exec) (hb : c.code = cL_law) (hml : c.maxLocals = 7) (hown : s.vm.findClass RL = some m.cls) (hts : ∀ w ∈ uU, w.before #[Value.ref b] s = true) (hXs : va_X b L9 xs s s.heap) (hbl : b < s.heap.size) (hbA : ¬ A b) (hL9 : L9 ≤ 2048) (hY : tY A s s.heap) (hi : adi adr) (hc9 : cells + 8 ≤ room_1.cells) (hs9 : slots + 48 ≤ room_1.slots) (h09 : 0 ≤ i9) (h19 : i9 + 4 ≤ L9) (hx1 : xs (i9 + 1).toNat = Int32.ofInt x1) (hx2 : xs (i9 + 2).toNat = Int32.ofInt x2) (hx3 : xs (i9 + 3).toNat = Int32.ofInt x3) (h : lc_13 n x1 x2 x3 M = some M9)
    (kn : ∀ (ls : Array Slot) (H : Heap) (locs : List Loc), lv_has ls 7 [(4, .int (Int32.ofInt (i9 + 4))), (3, .ref (adr 48)), (2, .ref (adr 36)), (1, .ref (adr 0)), (0, .ref b)] → wH G A s.heap s (LL adr) (wf G adr (tm M9)) H locs → W p l e room_1 s m #[Value.ref b] below meth c H locs (cells + 1) (slots + 6) (lw_Z below #[Value.ref b] s) (F0 m 23 ls []))
    {ls : Array Slot} {H : Heap} {locs : List Loc} (hl : lv_has ls 7 [(4, .int (Int32.ofInt i9)), (3, .ref (adr 48)), (2, .ref (adr 36)), (1, .ref (adr 0)), (0, .ref b)]) (hw : wH G A s.heap s (LL adr) (wf G adr (tm M)) H locs) : W p l e room_1 s m #[Value.ref b] below meth c H locs cells slots (lw_Z below #[Value.ref b] s) (F0 m 947 ls []) := by
  have fx : CallFix p m c cL_law 7 s #[Value.ref b] uU RL := ⟨hx, hb, hml, hown, hts⟩
  unfold lc_13 at h
  refine lv_aload_n hx hb dL_law_947 rfl (lv_at hl 3 rfl) ?_
  refine lv_aload_n hx hb dL_law_948 rfl (lv_at hl 4 rfl) ?_
  refine lv_iload hx hb dL_law_949 (lv_at hl 0 rfl) ?_
  refine lv_iconst (v := Int32.ofInt (1)) hx hb dL_law_951 rfl ?_
  refine o_iadd hx hb dL_law_952 ?_
  refine o_sld (x := x1) hx hb hXs hbl hbA hw hL9 (by omega) (by omega) hx1 dL_law_953 ?_
  refine lv_aload_n hx hb dL_law_954 rfl (lv_at hl 1 rfl) ?_
  replace h := bnd h
  obtain ⟨⟨v1, M2⟩, e1, h⟩ := h
  refine hy_callSi (c1 := cells + 1) (s1 := slots + 6) (As := [.ref (adr 0), .int (Int32.ofInt x1), .ref (adr 48)]) (rest := []) fx hY hw (cc_L_squareFree (l := l) (G := G) hl0 hi e1) (h_cS 3 hts q_813 q_814 q_815 q_816 rfl rfl (by decide) (by decide)) hl.1 rfl (lv_room (Nat.le_of_ble_eq_true rfl)) dL_law_955 ⟨by omega, by omega⟩ rfl rfl (fun H locs hw => ?_)
  refine lv_istore (lv' := [(5, .int (Int32.ofInt v1)), (4, .int (Int32.ofInt i9)), (3, .ref (adr 48)), (2, .ref (adr 36)), (1, .ref (adr 0)), (0, .ref b)]) hx hb dL_law_958 hl (by decide) rfl (fun ls hl => ?_)
  refine lv_aload_n hx hb dL_law_960 rfl (lv_at hl 3 rfl) ?_
  refine lv_aload_n hx hb dL_law_961 rfl (lv_at hl 5 rfl) ?_
  refine lv_iload hx hb dL_law_962 (lv_at hl 1 rfl) ?_
  refine lv_iconst (v := Int32.ofInt (1)) hx hb dL_law_964 rfl ?_
  refine o_iadd hx hb dL_law_965 ?_
  refine o_sld (x := x1) hx hb hXs hbl hbA hw hL9 (by omega) (by omega) hx1 dL_law_966 ?_
  replace h := bnd h
  obtain ⟨⟨v3, M4⟩, e3, h⟩ := h
  refine n_callVi (k := 36) (As := [.int (Int32.ofInt x1)]) (rest := []) fx hi hw (cc_X8_squareFree (l := l) (G := G) (sz := H.size) hi e3) (by decide) rfl rfl (w_cV 1 hts q_817 q_818 q_819 q_820 q_821 rfl rfl (by decide) (by decide)) ⟨by omega, by omega⟩ hl.1 rfl (lv_room (Nat.le_of_ble_eq_true rfl)) dL_law_967 (fun H locs hw => ?_)
  refine lv_istore (lv' := [(6, .int (Int32.ofInt v3)), (5, .int (Int32.ofInt v1)), (4, .int (Int32.ofInt i9)), (3, .ref (adr 48)), (2, .ref (adr 36)), (1, .ref (adr 0)), (0, .ref b)]) hx hb dL_law_970 hl (by decide) rfl (fun ls hl => ?_)
  refine lv_aload_n hx hb dL_law_972 rfl (lv_at hl 4 rfl) ?_
  replace h := bnd h
  obtain ⟨v5, e5, h⟩ := h
  refine n_callVi (k := 36) (As := []) (rest := []) fx hi hw (cc_X8_thrown (l := l) (G := G) (sz := H.size) hi e5) (by decide) rfl rfl (w_cV 0 hts q_700 q_701 q_702 q_703 q_704 rfl rfl (by decide) (by decide)) ⟨by omega, by omega⟩ hl.1 rfl (lv_room (Nat.le_of_ble_eq_true rfl)) dL_law_973 (fun H locs hw => ?_)
  refine lv_iload hx hb dL_law_976 (lv_at hl 1 rfl) ?_
  replace h := bnd h
  obtain ⟨_, hg, h⟩ := h
  refine o_icmp_eq (tgt := 983) hx hb hg dL_law_978 (by decide) (fun hc => ?_) (fun hc => ?_)
  · replace h := ite_t hc h
    refine lv_iload hx hb dL_law_983 (lv_at hl 1 rfl) ?_
    replace h := bnd h
    obtain ⟨_, hg, h⟩ := h
    refine o_if_ne (tgt := 1007) hx hb hg dL_law_985 (by decide) (fun hc => ?_) (fun hc => ?_)
    · replace h := ite_f hc h
      refine lv_goto (tgt := 1103) hx hb dL_law_1007 (by decide) ?_
      refine lv_iinc (v := Int32.ofInt (i9 + 4)) (lv' := [(4, .int (Int32.ofInt (i9 + 4))), (6, .int (Int32.ofInt v3)), (5, .int (Int32.ofInt v1)), (3, .ref (adr 48)), (2, .ref (adr 36)), (1, .ref (adr 0)), (0, .ref b)]) hx hb dL_law_1103 hl (k := 2) rfl (inc_o _ _) (by decide) rfl (fun ls hl => ?_)
      refine lv_goto (tgt := 23) hx hb dL_law_1106 (by decide) ?_
      cases h
      exact kn _ _ _ (lv_sub hl [0, 3, 4, 5, 6] rfl) hw
    · replace h := ite_t hc h
      refine lv_aload_n hx hb dL_law_988 rfl (lv_at hl 3 rfl) ?_
      refine lv_iconst (v := Int32.ofInt (0)) hx hb dL_law_989 rfl ?_
      replace h := bnd h
      obtain ⟨v6, e6, h⟩ := h
      refine o_lald hx hb hi hw e6 dL_law_990 ?_
      refine lv_iload hx hb dL_law_991 (lv_at hl 0 rfl) ?_
      replace h := bnd h
      obtain ⟨v7, j8, h⟩ := h
      have kj : ∀ (ls : Array Slot) (H : Heap) (locs : List Loc), lv_has ls 7 [(0, .ref b), (1, .ref (adr 0)), (2, .ref (adr 36)), (3, .ref (adr 48)), (4, .int (Int32.ofInt i9))] → wH G A s.heap s (LL adr) (wf G adr (tm M4)) H locs → W p l e room_1 s m #[Value.ref b] below meth c H locs (cells + 1) (slots + 6) (lw_Z below #[Value.ref b] s) (F0 m 1001 ls [.long (Int64.ofInt v7), .long (Int64.ofInt v6)]) := by
        intro ls H locs hl hw
        replace h := bnd h
        obtain ⟨_, hg, h⟩ := h
        refine o_lcmp_eq (tgt := 1007) hx hb hg dL_law_1001 dL_law_1002 (by decide) (fun hc => ?_) (fun hc => ?_)
        · replace h := ite_t hc h
          refine lv_goto (tgt := 1103) hx hb dL_law_1007 (by decide) ?_
          refine lv_iinc (v := Int32.ofInt (i9 + 4)) (lv' := [(4, .int (Int32.ofInt (i9 + 4))), (0, .ref b), (1, .ref (adr 0)), (2, .ref (adr 36)), (3, .ref (adr 48))]) hx hb dL_law_1103 hl (k := 4) rfl (inc_o _ _) (by decide) rfl (fun ls hl => ?_)
          refine lv_goto (tgt := 23) hx hb dL_law_1106 (by decide) ?_
          cases h
          exact kn _ _ _ (lv_sub hl [0, 4, 3, 2, 1] rfl) hw
        · replace h := ite_f hc h
          refine lv_iconst (v := Int32.ofInt (0)) hx hb dL_law_1005 rfl ?_
          cases h
      clear h
      replace h := j8
      clear j8
      replace h := bnd h
      obtain ⟨_, hg, h⟩ := h
      refine o_if_eq (tgt := 1000) hx hb hg dL_law_993 (by decide) (fun hc => ?_) (fun hc => ?_)
      · replace h := ite_t hc h
        refine lv_lconst (v := Int64.ofInt (0)) hx hb dL_law_1000 (by decide) ?_
        cases h
        exact kj _ _ _ (lv_sub hl [6, 5, 4, 3, 2] rfl) hw
      · replace h := ite_f hc h
        refine lv_lconst (v := Int64.ofInt (1)) hx hb dL_law_996 (by decide) ?_
        refine lv_goto (tgt := 1001) hx hb dL_law_997 (by decide) ?_
        cases h
        exact kj _ _ _ (lv_sub hl [6, 5, 4, 3, 2] rfl) hw
  · replace h := ite_f hc h
    refine lv_iconst (v := Int32.ofInt (0)) hx hb dL_law_981 rfl ?_
    cases h
theorem q_822 : Cond.methodLink RL 123 yL_value ∈ uU := uU_in (by decide +kernel) (by decide +kernel)
theorem q_823 : Cond.static yL_value ∈ uU := uU_in (by decide +kernel) (by decide +kernel)
theorem q_824 : Cond.initialized yL_value.cls ∈ uU := uU_in (by decide +kernel) (by decide +kernel)
theorem q_825 : Cond.codeWith yL_value cL_value 6 (some .int) [(0, 12, 15, 19), (0, 12, 19, 21)] ∈ uU := uU_in (by decide +kernel) (by decide +kernel)
theorem q_826 : Cond.methodLink RL 125 yX8_value ∈ uU := uU_in (by decide +kernel) (by decide +kernel)
theorem q_827 : Cond.instanceMethod yX8_value ∈ uU := uU_in (by decide +kernel) (by decide +kernel)
theorem q_828 : Cond.selects yX8_value.cls yX8_value yX8_value ∈ uU := uU_in (by decide +kernel) (by decide +kernel)
theorem q_829 : Cond.initialized yX8_value.cls ∈ uU := uU_in (by decide +kernel) (by decide +kernel)
theorem q_830 : Cond.code yX8_value cX8_value 7 (some .int) ∈ uU := uU_in (by decide +kernel) (by decide +kernel)
def lc_14 (n : Nat) (x1 x2 x3 : Int) (M : MI) : Option MI :=
  Option.bind (fL_value n x1 x2 x3 M) fun (v1, M2) =>
  Option.bind (f_X8_value n x1 x2 x3 M2) fun (v3, M4) =>
  Option.bind (f_X8_thrown M4) fun v5 =>
  Option.bind (gI v5 v1) fun _ =>
  if v5 = v1 then
    Option.bind (gI v1 0) fun _ =>
    if v1 = 0 then
      Option.bind (odJ M4 48 (0)) fun v6 =>
      Option.bind (gI v3 0) fun v7 =>
      Option.bind (gJ v6 v3) fun _ =>
      if v6 = v3 then
        some M4
      else
        none
    else
      some M4
  else
    none
set_option maxRecDepth 100000 in
set_option maxHeartbeats 8000000 in
theorem lb_14 {p : Program} {l : Launch} {e : Env} {s : State} {m : MethodId} {below : List Frame} {meth : Method} {c : Code} {b L9 : Nat} {xs : Nat → Int32} {G : gG} {A : Nat → Prop} {adr : Nat → Nat} {cells slots : Nat} {i9 x1 x2 x3 : Int} {n : Nat} {M M9 : MI} (hl0 : l.stackTraces = false) (hx : p.tables.exec = Jvm.exec) (hb : c.code = cL_law) (hml : c.maxLocals = 7) (hown : s.vm.findClass RL = some m.cls) (hts : ∀ w ∈ uU, w.before #[Value.ref b] s = true) (hXs : va_X b L9 xs s s.heap) (hbl : b < s.heap.size) (hbA : ¬ A b) (hL9 : L9 ≤ 2048) (hY : tY A s s.heap) (hi : adi adr) (hc9 : cells + 8 ≤ room_1.cells) (hs9 : slots + 48 ≤ room_1.slots) (h09 : 0 ≤ i9) (h19 : i9 + 4 ≤ L9) (hx1 : xs (i9 + 1).toNat = Int32.ofInt x1) (hx2 : xs (i9 + 2).toNat = Int32.ofInt x2) (hx3 : xs (i9 + 3).toNat = Int32.ofInt x3) (h : lc_14 n x1 x2 x3 M = some M9)
    (kn : ∀ (ls : Array Slot) (H : Heap) (locs : List Loc), lv_has ls 7 [(4, .int (Int32.ofInt (i9 + 4))), (3, .ref (adr 48)), (2, .ref (adr 36)), (1, .ref (adr 0)), (0, .ref b)] → wH G A s.heap s (LL adr) (wf G adr (tm M9)) H locs → W p l e room_1 s m #[Value.ref b] below meth c H locs (cells + 2) (slots + 12) (lw_Z below #[Value.ref b] s) (F0 m 23 ls []))
    {ls : Array Slot} {H : Heap} {locs : List Loc} (hl : lv_has ls 7 [(4, .int (Int32.ofInt i9)), (3, .ref (adr 48)), (2, .ref (adr 36)), (1, .ref (adr 0)), (0, .ref b)]) (hw : wH G A s.heap s (LL adr) (wf G adr (tm M)) H locs) : W p l e room_1 s m #[Value.ref b] below meth c H locs cells slots (lw_Z below #[Value.ref b] s) (F0 m 1010 ls []) := by
  have fx : CallFix p m c cL_law 7 s #[Value.ref b] uU RL := ⟨hx, hb, hml, hown, hts⟩
  unfold lc_14 at h
  refine lv_aload_n hx hb dL_law_1010 rfl (lv_at hl 3 rfl) ?_
  refine lv_aload_n hx hb dL_law_1011 rfl (lv_at hl 4 rfl) ?_
  refine lv_iload hx hb dL_law_1012 (lv_at hl 0 rfl) ?_
  refine lv_iconst (v := Int32.ofInt (1)) hx hb dL_law_1014 rfl ?_
  refine o_iadd hx hb dL_law_1015 ?_
  refine o_sld (x := x1) hx hb hXs hbl hbA hw hL9 (by omega) (by omega) hx1 dL_law_1016 ?_
  refine lv_aload_n hx hb dL_law_1017 rfl (lv_at hl 4 rfl) ?_
  refine lv_iload hx hb dL_law_1018 (lv_at hl 0 rfl) ?_
  refine lv_iconst (v := Int32.ofInt (2)) hx hb dL_law_1020 rfl ?_
  refine o_iadd hx hb dL_law_1021 ?_
  refine o_sld (x := x2) hx hb hXs hbl hbA hw hL9 (by omega) (by omega) hx2 dL_law_1022 ?_
  refine lv_aload_n hx hb dL_law_1023 rfl (lv_at hl 4 rfl) ?_
  refine lv_iload hx hb dL_law_1024 (lv_at hl 0 rfl) ?_
  refine lv_iconst (v := Int32.ofInt (3)) hx hb dL_law_1026 rfl ?_
  refine o_iadd hx hb dL_law_1027 ?_
  refine o_sld (x := x3) hx hb hXs hbl hbA hw hL9 (by omega) (by omega) hx3 dL_law_1028 ?_
  refine lv_aload_n hx hb dL_law_1029 rfl (lv_at hl 1 rfl) ?_
  replace h := bnd h
  obtain ⟨⟨v1, M2⟩, e1, h⟩ := h
  refine hy_callSi (c1 := cells + 2) (s1 := slots + 12) (As := [.ref (adr 0), .int (Int32.ofInt x1), .int (Int32.ofInt x2), .int (Int32.ofInt x3), .ref (adr 48)]) (rest := []) fx hY hw (cc_L_value (l := l) (G := G) hl0 hi e1) (h_cS 5 hts q_822 q_823 q_824 q_825 rfl rfl (by decide) (by decide)) hl.1 rfl (lv_room (Nat.le_of_ble_eq_true rfl)) dL_law_1030 ⟨by omega, by omega⟩ rfl rfl (fun H locs hw => ?_)
  refine lv_istore (lv' := [(5, .int (Int32.ofInt v1)), (4, .int (Int32.ofInt i9)), (3, .ref (adr 48)), (2, .ref (adr 36)), (1, .ref (adr 0)), (0, .ref b)]) hx hb dL_law_1033 hl (by decide) rfl (fun ls hl => ?_)
  refine lv_aload_n hx hb dL_law_1035 rfl (lv_at hl 3 rfl) ?_
  refine lv_aload_n hx hb dL_law_1036 rfl (lv_at hl 5 rfl) ?_
  refine lv_iload hx hb dL_law_1037 (lv_at hl 1 rfl) ?_
  refine lv_iconst (v := Int32.ofInt (1)) hx hb dL_law_1039 rfl ?_
  refine o_iadd hx hb dL_law_1040 ?_
  refine o_sld (x := x1) hx hb hXs hbl hbA hw hL9 (by omega) (by omega) hx1 dL_law_1041 ?_
  refine lv_aload_n hx hb dL_law_1042 rfl (lv_at hl 5 rfl) ?_
  refine lv_iload hx hb dL_law_1043 (lv_at hl 1 rfl) ?_
  refine lv_iconst (v := Int32.ofInt (2)) hx hb dL_law_1045 rfl ?_
  refine o_iadd hx hb dL_law_1046 ?_
  refine o_sld (x := x2) hx hb hXs hbl hbA hw hL9 (by omega) (by omega) hx2 dL_law_1047 ?_
  refine lv_aload_n hx hb dL_law_1048 rfl (lv_at hl 5 rfl) ?_
  refine lv_iload hx hb dL_law_1049 (lv_at hl 1 rfl) ?_
  refine lv_iconst (v := Int32.ofInt (3)) hx hb dL_law_1051 rfl ?_
  refine o_iadd hx hb dL_law_1052 ?_
  refine o_sld (x := x3) hx hb hXs hbl hbA hw hL9 (by omega) (by omega) hx3 dL_law_1053 ?_
  replace h := bnd h
  obtain ⟨⟨v3, M4⟩, e3, h⟩ := h
  refine n_callVi (k := 36) (As := [.int (Int32.ofInt x1), .int (Int32.ofInt x2), .int (Int32.ofInt x3)]) (rest := []) fx hi hw (cc_X8_value (l := l) (G := G) (sz := H.size) hi e3) (by decide) rfl rfl (w_cV 3 hts q_826 q_827 q_828 q_829 q_830 rfl rfl (by decide) (by decide)) ⟨by omega, by omega⟩ hl.1 rfl (lv_room (Nat.le_of_ble_eq_true rfl)) dL_law_1054 (fun H locs hw => ?_)
  refine lv_istore (lv' := [(6, .int (Int32.ofInt v3)), (5, .int (Int32.ofInt v1)), (4, .int (Int32.ofInt i9)), (3, .ref (adr 48)), (2, .ref (adr 36)), (1, .ref (adr 0)), (0, .ref b)]) hx hb dL_law_1057 hl (by decide) rfl (fun ls hl => ?_)
  refine lv_aload_n hx hb dL_law_1059 rfl (lv_at hl 4 rfl) ?_
  replace h := bnd h
  obtain ⟨v5, e5, h⟩ := h
  refine n_callVi (k := 36) (As := []) (rest := []) fx hi hw (cc_X8_thrown (l := l) (G := G) (sz := H.size) hi e5) (by decide) rfl rfl (w_cV 0 hts q_700 q_701 q_702 q_703 q_704 rfl rfl (by decide) (by decide)) ⟨by omega, by omega⟩ hl.1 rfl (lv_room (Nat.le_of_ble_eq_true rfl)) dL_law_1060 (fun H locs hw => ?_)
  refine lv_iload hx hb dL_law_1063 (lv_at hl 1 rfl) ?_
  replace h := bnd h
  obtain ⟨_, hg, h⟩ := h
  refine o_icmp_eq (tgt := 1070) hx hb hg dL_law_1065 (by decide) (fun hc => ?_) (fun hc => ?_)
  · replace h := ite_t hc h
    refine lv_iload hx hb dL_law_1070 (lv_at hl 1 rfl) ?_
    replace h := bnd h
    obtain ⟨_, hg, h⟩ := h
    refine o_if_ne (tgt := 1087) hx hb hg dL_law_1072 (by decide) (fun hc => ?_) (fun hc => ?_)
    · replace h := ite_f hc h
      refine lv_goto (tgt := 1103) hx hb dL_law_1087 (by decide) ?_
      refine lv_iinc (v := Int32.ofInt (i9 + 4)) (lv' := [(4, .int (Int32.ofInt (i9 + 4))), (6, .int (Int32.ofInt v3)), (5, .int (Int32.ofInt v1)), (3, .ref (adr 48)), (2, .ref (adr 36)), (1, .ref (adr 0)), (0, .ref b)]) hx hb dL_law_1103 hl (k := 2) rfl (inc_o _ _) (by decide) rfl (fun ls hl => ?_)
      refine lv_goto (tgt := 23) hx hb dL_law_1106 (by decide) ?_
      cases h
      exact kn _ _ _ (lv_sub hl [0, 3, 4, 5, 6] rfl) hw
    · replace h := ite_t hc h
      refine lv_aload_n hx hb dL_law_1075 rfl (lv_at hl 3 rfl) ?_
      refine lv_iconst (v := Int32.ofInt (0)) hx hb dL_law_1076 rfl ?_
      replace h := bnd h
      obtain ⟨v6, e6, h⟩ := h
      refine o_lald hx hb hi hw e6 dL_law_1077 ?_
      refine lv_iload hx hb dL_law_1078 (lv_at hl 0 rfl) ?_
      replace h := bnd h
      obtain ⟨v7, e7, h⟩ := h
      refine o_i2l hx hb e7 dL_law_1080 ?_
      replace h := bnd h
      obtain ⟨_, hg, h⟩ := h
      refine o_lcmp_eq (tgt := 1087) hx hb hg dL_law_1081 dL_law_1082 (by decide) (fun hc => ?_) (fun hc => ?_)
      · replace h := ite_t hc h
        refine lv_goto (tgt := 1103) hx hb dL_law_1087 (by decide) ?_
        refine lv_iinc (v := Int32.ofInt (i9 + 4)) (lv' := [(4, .int (Int32.ofInt (i9 + 4))), (6, .int (Int32.ofInt v3)), (5, .int (Int32.ofInt v1)), (3, .ref (adr 48)), (2, .ref (adr 36)), (1, .ref (adr 0)), (0, .ref b)]) hx hb dL_law_1103 hl (k := 2) rfl (inc_o _ _) (by decide) rfl (fun ls hl => ?_)
        refine lv_goto (tgt := 23) hx hb dL_law_1106 (by decide) ?_
        cases h
        exact kn _ _ _ (lv_sub hl [0, 3, 4, 5, 6] rfl) hw
      · replace h := ite_f hc h
        refine lv_iconst (v := Int32.ofInt (0)) hx hb dL_law_1085 rfl ?_
        cases h
  · replace h := ite_f hc h
    refine lv_iconst (v := Int32.ofInt (0)) hx hb dL_law_1068 rfl ?_
    cases h
theorem q_831 : Cond.methodLink RL 126 yX7_count ∈ uU := uU_in (by decide +kernel) (by decide +kernel)
theorem q_832 : Cond.instanceMethod yX7_count ∈ uU := uU_in (by decide +kernel) (by decide +kernel)
theorem q_833 : Cond.selects yX7_count.cls yX7_count yX7_count ∈ uU := uU_in (by decide +kernel) (by decide +kernel)
theorem q_834 : Cond.initialized yX7_count.cls ∈ uU := uU_in (by decide +kernel) (by decide +kernel)
theorem q_835 : Cond.code yX7_count cX7_count 1 (some .int) ∈ uU := uU_in (by decide +kernel) (by decide +kernel)
theorem q_836 : Cond.methodLink RL 129 yX8_count ∈ uU := uU_in (by decide +kernel) (by decide +kernel)
theorem q_837 : Cond.instanceMethod yX8_count ∈ uU := uU_in (by decide +kernel) (by decide +kernel)
theorem q_838 : Cond.selects yX8_count.cls yX8_count yX8_count ∈ uU := uU_in (by decide +kernel) (by decide +kernel)
theorem q_839 : Cond.initialized yX8_count.cls ∈ uU := uU_in (by decide +kernel) (by decide +kernel)
theorem q_840 : Cond.code yX8_count cX8_count 1 (some .int) ∈ uU := uU_in (by decide +kernel) (by decide +kernel)
def lc_15 (n : Nat) (x1 x2 x3 : Int) (M : MI) : Option MI :=
  Option.bind (f_X7_count M) fun v1 =>
  Option.bind (f_X8_count M) fun (v2, M3) =>
  Option.bind (gI v1 v2) fun _ =>
  if v1 = v2 then
    some M3
  else
    none
set_option maxRecDepth 100000 in
set_option maxHeartbeats 8000000 in
theorem lb_15 {p : Program} {l : Launch} {e : Env} {s : State} {m : MethodId} {below : List Frame} {meth : Method} {c : Code} {b L9 : Nat} {xs : Nat → Int32} {G : gG} {A : Nat → Prop} {adr : Nat → Nat} {cells slots : Nat} {i9 x1 x2 x3 : Int} {n : Nat} {M M9 : MI} (hl0 : l.stackTraces = false) (hx : p.tables.exec = Jvm.exec) (hb : c.code = cL_law) (hml : c.maxLocals = 7) (hown : s.vm.findClass RL = some m.cls) (hts : ∀ w ∈ uU, w.before #[Value.ref b] s = true) (hXs : va_X b L9 xs s s.heap) (hbl : b < s.heap.size) (hbA : ¬ A b) (hL9 : L9 ≤ 2048) (hY : tY A s s.heap) (hi : adi adr) (hc9 : cells + 8 ≤ room_1.cells) (hs9 : slots + 48 ≤ room_1.slots) (h09 : 0 ≤ i9) (h19 : i9 + 4 ≤ L9) (hx1 : xs (i9 + 1).toNat = Int32.ofInt x1) (hx2 : xs (i9 + 2).toNat = Int32.ofInt x2) (hx3 : xs (i9 + 3).toNat = Int32.ofInt x3) (h : lc_15 n x1 x2 x3 M = some M9)
    (kn : ∀ (ls : Array Slot) (H : Heap) (locs : List Loc), lv_has ls 7 [(4, .int (Int32.ofInt (i9 + 4))), (3, .ref (adr 48)), (2, .ref (adr 36)), (1, .ref (adr 0)), (0, .ref b)] → wH G A s.heap s (LL adr) (wf G adr (tm M9)) H locs → W p l e room_1 s m #[Value.ref b] below meth c H locs cells slots (lw_Z below #[Value.ref b] s) (F0 m 23 ls []))
    {ls : Array Slot} {H : Heap} {locs : List Loc} (hl : lv_has ls 7 [(4, .int (Int32.ofInt i9)), (3, .ref (adr 48)), (2, .ref (adr 36)), (1, .ref (adr 0)), (0, .ref b)]) (hw : wH G A s.heap s (LL adr) (wf G adr (tm M)) H locs) : W p l e room_1 s m #[Value.ref b] below meth c H locs cells slots (lw_Z below #[Value.ref b] s) (F0 m 1090 ls []) := by
  have fx : CallFix p m c cL_law 7 s #[Value.ref b] uU RL := ⟨hx, hb, hml, hown, hts⟩
  unfold lc_15 at h
  refine lv_aload_n hx hb dL_law_1090 rfl (lv_at hl 3 rfl) ?_
  replace h := bnd h
  obtain ⟨v1, e1, h⟩ := h
  refine n_callVi (k := 0) (As := []) (rest := []) fx hi hw (cc_X7_count (l := l) (G := G) (sz := H.size) hi e1) (by decide) rfl rfl (w_cV 0 hts q_831 q_832 q_833 q_834 q_835 rfl rfl (by decide) (by decide)) ⟨by omega, by omega⟩ hl.1 rfl (lv_room (Nat.le_of_ble_eq_true rfl)) dL_law_1091 (fun H locs hw => ?_)
  refine lv_aload_n hx hb dL_law_1094 rfl (lv_at hl 2 rfl) ?_
  replace h := bnd h
  obtain ⟨⟨v2, M3⟩, e2, h⟩ := h
  refine n_callVi (k := 36) (As := []) (rest := [.int (Int32.ofInt v1)]) fx hi hw (cc_X8_count (l := l) (G := G) (sz := H.size) hi e2) (by decide) rfl rfl (w_cV 0 hts q_836 q_837 q_838 q_839 q_840 rfl rfl (by decide) (by decide)) ⟨by omega, by omega⟩ hl.1 rfl (lv_room (Nat.le_of_ble_eq_true rfl)) dL_law_1095 (fun H locs hw => ?_)
  replace h := bnd h
  obtain ⟨_, hg, h⟩ := h
  refine o_icmp_eq (tgt := 1103) hx hb hg dL_law_1098 (by decide) (fun hc => ?_) (fun hc => ?_)
  · replace h := ite_t hc h
    refine lv_iinc (v := Int32.ofInt (i9 + 4)) (lv' := [(4, .int (Int32.ofInt (i9 + 4))), (3, .ref (adr 48)), (2, .ref (adr 36)), (1, .ref (adr 0)), (0, .ref b)]) hx hb dL_law_1103 hl (k := 0) rfl (inc_o _ _) (by decide) rfl (fun ls hl => ?_)
    refine lv_goto (tgt := 23) hx hb dL_law_1106 (by decide) ?_
    cases h
    exact kn _ _ _ (lv_sub hl [0, 1, 2, 3, 4] rfl) hw
  · replace h := ite_f hc h
    refine lv_iconst (v := Int32.ofInt (0)) hx hb dL_law_1101 rfl ?_
    cases h
