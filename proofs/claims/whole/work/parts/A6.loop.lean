def lcK (n k : Nat) (x1 x2 x3 : Int) (M : MI) : Option MI := match k with
  | 0 => lc_0 n x1 x2 x3 M
  | 1 => lc_1 n x1 x2 x3 M
  | 2 => lc_2 n x1 x2 x3 M
  | 3 => lc_3 n x1 x2 x3 M
  | 4 => lc_4 n x1 x2 x3 M
  | 5 => lc_5 n x1 x2 x3 M
  | 6 => lc_6 n x1 x2 x3 M
  | 7 => lc_7 n x1 x2 x3 M
  | 8 => lc_8 n x1 x2 x3 M
  | 9 => lc_9 n x1 x2 x3 M
  | 10 => lc_10 n x1 x2 x3 M
  | 11 => lc_11 n x1 x2 x3 M
  | 12 => lc_12 n x1 x2 x3 M
  | 13 => lc_13 n x1 x2 x3 M
  | 14 => lc_14 n x1 x2 x3 M
  | 15 => lc_15 n x1 x2 x3 M
  | _ => none
theorem i3_nat {k : Nat} : Int32.ofNat k = Int32.ofInt (k : Int) := rfl
set_option maxHeartbeats 4000000 in
theorem law_head {p : Program} {l : Launch} {e : Env} {s : State} {m : MethodId} {below : List Frame} {meth : Method} {c : Code} {b L9 : Nat} {xs : Nat → Int32} {G : gG} {A : Nat → Prop} {adr : Nat → Nat} (hx : p.tables.exec = Jvm.exec) (hb : c.code = cL_law) (hr : meth.sig.returnType = ret) (hml : c.maxLocals = 7) (hown : s.vm.findClass RL = some m.cls) (hts : ∀ w ∈ uU, w.before #[Value.ref b] s = true) (hlocks : meth.locks = false) (hXs : va_X b L9 xs s s.heap) (hbl : b < s.heap.size) (hbA : ¬ A b) (hAh : ∀ q, A q → s.heap.size ≤ q) (hL9 : L9 ≤ 2048) {i9 : Int} {M : MI} {cells slots : Nat} {ls : Array Slot} {H : Heap} {locs : List Loc} (h0 : 0 ≤ i9) (h1 : i9 ≤ 4096) (hl : lv_has ls 7 [(4, .int (Int32.ofInt i9)), (3, .ref (adr 48)), (2, .ref (adr 36)), (1, .ref (adr 0)), (0, .ref b)]) (hw : wH G A s.heap s (LL adr) (wf G adr (tm M)) H locs)
    (kx : (L9 : Int) < i9 + 4 → W p l e room_1 s m #[Value.ref b] below meth c H locs cells slots (lw_Z below #[Value.ref b] s) (F0 m 1109 ls [])) (kk : i9 + 4 ≤ (L9 : Int) → W p l e room_1 s m #[Value.ref b] below meth c H locs cells slots (lw_Z below #[Value.ref b] s) (F0 m 32 ls [])) : W p l e room_1 s m #[Value.ref b] below meth c H locs cells slots (lw_Z below #[Value.ref b] s) (F0 m 23 ls []) := by
  refine lv_iload hx hb dL_law_23 (lv_at hl 0 rfl) ?_
  refine lv_aload_n hx hb dL_law_25 rfl (lv_at hl 4 rfl) ?_
  refine va_slen hx hb hXs hbl hbA hw.2.2.2.1 dL_law_26 ?_
  refine w_ti (y := Int32.ofInt (L9 : Int)) i3_nat ?_
  refine lv_iconst (v := Int32.ofInt (4)) hx hb dL_law_27 rfl ?_
  refine o_isub hx hb dL_law_28 ?_
  have hg : gI i9 ((L9 : Int) - 4) = some () := if_pos ⟨by omega, by omega⟩
  exact o_icmp_gt (tgt := 1109) hx hb hg dL_law_29 (by decide) (fun h => kx (by omega)) (fun h => kk (by omega))
set_option maxHeartbeats 4000000 in
theorem law_end {p : Program} {l : Launch} {e : Env} {s : State} {m : MethodId} {below : List Frame} {meth : Method} {c : Code} {b L9 : Nat} {xs : Nat → Int32} {G : gG} {A : Nat → Prop} {adr : Nat → Nat} (hx : p.tables.exec = Jvm.exec) (hb : c.code = cL_law) (hr : meth.sig.returnType = ret) (hml : c.maxLocals = 7) (hown : s.vm.findClass RL = some m.cls) (hts : ∀ w ∈ uU, w.before #[Value.ref b] s = true) (hlocks : meth.locks = false) (hXs : va_X b L9 xs s s.heap) (hbl : b < s.heap.size) (hbA : ¬ A b) (hAh : ∀ q, A q → s.heap.size ≤ q) (hL9 : L9 ≤ 2048) {M : MI} {cells slots : Nat} {ls : Array Slot} {H : Heap} {locs : List Loc} (hc : cells ≤ 601024) (hs : slots ≤ 7293034) (hw : wH G A s.heap s (LL adr) (wf G adr (tm M)) H locs) : W p l e room_1 s m #[Value.ref b] below meth c H locs cells slots (lw_Z below #[Value.ref b] s) (F0 m 1109 ls []) := by
  refine lv_iconst (v := 1) hx hb dL_law_1109 (by decide) ?_
  refine va_forget (fun q hq => hAh _ (hw.2.2.2.1.2.2 q hq)) ?_
  refine W.widen (k := 601024) (n := 7293034) hc hs ?_
  exact lw_ret hx hb hr hlocks dL_law_1110
theorem x_rng (x : Int32) : inI x.toInt := by
  have h1 := Int32.le_toInt x
  have h2 := Int32.toInt_lt x
  constructor <;> omega
set_option maxRecDepth 100000 in
set_option maxHeartbeats 8000000 in
theorem law_loop {p : Program} {l : Launch} {e : Env} {s : State} {m : MethodId} {below : List Frame} {meth : Method} {c : Code} {b L9 : Nat} {xs : Nat → Int32} {G : gG} {A : Nat → Prop} {adr : Nat → Nat} (hl0 : l.stackTraces = false) (hx : p.tables.exec = Jvm.exec) (hb : c.code = cL_law) (hr : meth.sig.returnType = ret) (hml : c.maxLocals = 7) (hown : s.vm.findClass RL = some m.cls) (hts : ∀ w ∈ uU, w.before #[Value.ref b] s = true) (hlocks : meth.locks = false) (hXs : va_X b L9 xs s s.heap) (hbl : b < s.heap.size) (hbA : ¬ A b) (hAh : ∀ q, A q → s.heap.size ≤ q) (hL9 : L9 ≤ 2048) (hY : tY A s s.heap) (hi : adi adr) {SR : MI → Prop} {n : Nat} (hS : ∀ (k : Nat) (x1 x2 x3 : Int) (M : MI), k < 16 → inI x1 → inI x2 → inI x3 → SR M → ∃ M', lcK n k x1 x2 x3 M = some M' ∧ SR M') :
    ∀ (r : Nat) (i9 : Int) (cells slots : Nat) (M : MI) (ls : Array Slot) (H : Heap) (locs : List Loc), 0 ≤ i9 → i9 ≤ 2048 → (L9 : Int) < i9 + 4 * (r + 1) → cells + 8 * (r + 1) ≤ 601024 → slots + 48 * (r + 1) ≤ 7293034 → SR M → lv_has ls 7 [(4, .int (Int32.ofInt i9)), (3, .ref (adr 48)), (2, .ref (adr 36)), (1, .ref (adr 0)), (0, .ref b)] → wH G A s.heap s (LL adr) (wf G adr (tm M)) H locs → W p l e room_1 s m #[Value.ref b] below meth c H locs cells slots (lw_Z below #[Value.ref b] s) (F0 m 23 ls [])
  | 0, i9, cells, slots, M, ls, H, locs, h0, h1, h2, hc, hs, hM, hl, hw => law_head hx hb hr hml hown hts hlocks hXs hbl hbA hAh hL9 h0 (by omega) hl hw (fun _ => law_end hx hb hr hml hown hts hlocks hXs hbl hbA hAh hL9 (by omega) (by omega) hw) (fun h => by omega)
  | r + 1, i9, cells, slots, M, ls, H, locs, h0, h1, h2, hc, hs, hM, hl, hw => by
    refine law_head hx hb hr hml hown hts hlocks hXs hbl hbA hAh hL9 h0 (by omega) hl hw (fun _ => law_end hx hb hr hml hown hts hlocks hXs hbl hbA hAh hL9 (by omega) (by omega) hw) (fun h3 => ?_)
    have ih := law_loop (below := below) (e := e) (G := G) hl0 hx hb hr hml hown hts hlocks hXs hbl hbA hAh hL9 hY hi hS r
    obtain ⟨x0, e0⟩ : ∃ x : Int, xs i9.toNat = Int32.ofInt x := ⟨(xs i9.toNat).toInt, (Int32.ofInt_toInt _).symm⟩
    obtain ⟨x1, g1, e1⟩ : ∃ x : Int, inI x ∧ xs (i9 + 1).toNat = Int32.ofInt x := ⟨(xs (i9 + 1).toNat).toInt, x_rng _, (Int32.ofInt_toInt _).symm⟩
    obtain ⟨x2, g2, e2⟩ : ∃ x : Int, inI x ∧ xs (i9 + 2).toNat = Int32.ofInt x := ⟨(xs (i9 + 2).toNat).toInt, x_rng _, (Int32.ofInt_toInt _).symm⟩
    obtain ⟨x3, g3, e3⟩ : ∃ x : Int, inI x ∧ xs (i9 + 3).toNat = Int32.ofInt x := ⟨(xs (i9 + 3).toNat).toInt, x_rng _, (Int32.ofInt_toInt _).symm⟩
    refine lv_aload_n hx hb dL_law_32 rfl (lv_at hl 4 rfl) ?_
    refine lv_iload hx hb dL_law_33 (lv_at hl 0 rfl) ?_
    refine o_sld (x := x0) hx hb hXs hbl hbA hw hL9 h0 (by omega) e0 dL_law_35 ?_
    refine lv_bipush (v := nI 15) hx hb dL_law_36 (by decide) ?_
    refine lv_iand hx hb dL_law_38 ?_
    obtain ⟨k, hk4, ek⟩ := pk_andE (Int32.ofInt x0) (m := nI 15) 4 (by decide)
    refine w_ti (y := nI k) ek ?_
    have hk16 : k < 16 := by omega
    obtain ⟨M', hM', hSR'⟩ := hS k x1 x2 x3 M hk16 g1 g2 g3 hM
    have hk16 : k = 0 ∨ k = 1 ∨ k = 2 ∨ k = 3 ∨ k = 4 ∨ k = 5 ∨ k = 6 ∨ k = 7 ∨ k = 8 ∨ k = 9 ∨ k = 10 ∨ k = 11 ∨ k = 12 ∨ k = 13 ∨ k = 14 ∨ k = 15 := by omega
    clear ek hk4
    have hc9 : cells + 8 ≤ room_1.cells := by show cells + 8 ≤ 601024; omega
    have hs9 : slots + 48 ≤ room_1.slots := by show slots + 48 ≤ 7293034; omega
    rcases hk16 with rfl | rfl | rfl | rfl | rfl | rfl | rfl | rfl | rfl | rfl | rfl | rfl | rfl | rfl | rfl | rfl
    · refine lv_tableIn (tgt := 116) (off := 77) hx hb dL_law_39 (by decide) (by decide) (by decide) (by decide) ?_
      exact lb_0 hl0 hx hb hml hown hts hXs hbl hbA hL9 hY hi hc9 hs9 h0 h3 e1 e2 e3 (show lc_0 n x1 x2 x3 M = some M' from hM') (fun ls H locs hl hw => ih (i9 + 4) _ _ M' ls H locs (by omega) (by omega) (by omega) (by omega) (by omega) hSR' hl hw) hl hw
    · refine lv_tableIn (tgt := 160) (off := 121) hx hb dL_law_39 (by decide) (by decide) (by decide) (by decide) ?_
      exact lb_1 hl0 hx hb hml hown hts hXs hbl hbA hL9 hY hi hc9 hs9 h0 h3 e1 e2 e3 (show lc_1 n x1 x2 x3 M = some M' from hM') (fun ls H locs hl hw => ih (i9 + 4) _ _ M' ls H locs (by omega) (by omega) (by omega) (by omega) (by omega) hSR' hl hw) hl hw
    · refine lv_tableIn (tgt := 247) (off := 208) hx hb dL_law_39 (by decide) (by decide) (by decide) (by decide) ?_
      exact lb_2 hl0 hx hb hml hown hts hXs hbl hbA hL9 hY hi hc9 hs9 h0 h3 e1 e2 e3 (show lc_2 n x1 x2 x3 M = some M' from hM') (fun ls H locs hl hw => ih (i9 + 4) _ _ M' ls H locs (by omega) (by omega) (by omega) (by omega) (by omega) hSR' hl hw) hl hw
    · refine lv_tableIn (tgt := 315) (off := 276) hx hb dL_law_39 (by decide) (by decide) (by decide) (by decide) ?_
      exact lb_3 hl0 hx hb hml hown hts hXs hbl hbA hL9 hY hi hc9 hs9 h0 h3 e1 e2 e3 (show lc_3 n x1 x2 x3 M = some M' from hM') (fun ls H locs hl hw => ih (i9 + 4) _ _ M' ls H locs (by omega) (by omega) (by omega) (by omega) (by omega) hSR' hl hw) hl hw
    · refine lv_tableIn (tgt := 383) (off := 344) hx hb dL_law_39 (by decide) (by decide) (by decide) (by decide) ?_
      exact lb_4 hl0 hx hb hml hown hts hXs hbl hbA hL9 hY hi hc9 hs9 h0 h3 e1 e2 e3 (show lc_4 n x1 x2 x3 M = some M' from hM') (fun ls H locs hl hw => ih (i9 + 4) _ _ M' ls H locs (by omega) (by omega) (by omega) (by omega) (by omega) hSR' hl hw) hl hw
    · refine lv_tableIn (tgt := 451) (off := 412) hx hb dL_law_39 (by decide) (by decide) (by decide) (by decide) ?_
      exact lb_5 hl0 hx hb hml hown hts hXs hbl hbA hL9 hY hi hc9 hs9 h0 h3 e1 e2 e3 (show lc_5 n x1 x2 x3 M = some M' from hM') (fun ls H locs hl hw => ih (i9 + 4) _ _ M' ls H locs (by omega) (by omega) (by omega) (by omega) (by omega) hSR' hl hw) hl hw
    · refine lv_tableIn (tgt := 519) (off := 480) hx hb dL_law_39 (by decide) (by decide) (by decide) (by decide) ?_
      exact lb_6 hl0 hx hb hml hown hts hXs hbl hbA hL9 hY hi hc9 hs9 h0 h3 e1 e2 e3 (show lc_6 n x1 x2 x3 M = some M' from hM') (fun ls H locs hl hw => ih (i9 + 4) _ _ M' ls H locs (by omega) (by omega) (by omega) (by omega) (by omega) hSR' hl hw) hl hw
    · refine lv_tableIn (tgt := 575) (off := 536) hx hb dL_law_39 (by decide) (by decide) (by decide) (by decide) ?_
      exact lb_7 hl0 hx hb hml hown hts hXs hbl hbA hL9 hY hi hc9 hs9 h0 h3 e1 e2 e3 (show lc_7 n x1 x2 x3 M = some M' from hM') (fun ls H locs hl hw => ih (i9 + 4) _ _ M' ls H locs (by omega) (by omega) (by omega) (by omega) (by omega) hSR' hl hw) hl hw
    · refine lv_tableIn (tgt := 631) (off := 592) hx hb dL_law_39 (by decide) (by decide) (by decide) (by decide) ?_
      exact lb_8 hl0 hx hb hml hown hts hXs hbl hbA hL9 hY hi hc9 hs9 h0 h3 e1 e2 e3 (show lc_8 n x1 x2 x3 M = some M' from hM') (fun ls H locs hl hw => ih (i9 + 4) _ _ M' ls H locs (by omega) (by omega) (by omega) (by omega) (by omega) hSR' hl hw) hl hw
    · refine lv_tableIn (tgt := 687) (off := 648) hx hb dL_law_39 (by decide) (by decide) (by decide) (by decide) ?_
      exact lb_9 hl0 hx hb hml hown hts hXs hbl hbA hL9 hY hi hc9 hs9 h0 h3 e1 e2 e3 (show lc_9 n x1 x2 x3 M = some M' from hM') (fun ls H locs hl hw => ih (i9 + 4) _ _ M' ls H locs (by omega) (by omega) (by omega) (by omega) (by omega) hSR' hl hw) hl hw
    · refine lv_tableIn (tgt := 743) (off := 704) hx hb dL_law_39 (by decide) (by decide) (by decide) (by decide) ?_
      exact lb_10 hl0 hx hb hml hown hts hXs hbl hbA hL9 hY hi hc9 hs9 h0 h3 e1 e2 e3 (show lc_10 n x1 x2 x3 M = some M' from hM') (fun ls H locs hl hw => ih (i9 + 4) _ _ M' ls H locs (by omega) (by omega) (by omega) (by omega) (by omega) hSR' hl hw) hl hw
    · refine lv_tableIn (tgt := 823) (off := 784) hx hb dL_law_39 (by decide) (by decide) (by decide) (by decide) ?_
      exact lb_11 hl0 hx hb hml hown hts hXs hbl hbA hL9 hY hi hc9 hs9 h0 h3 e1 e2 e3 (show lc_11 n x1 x2 x3 M = some M' from hM') (fun ls H locs hl hw => ih (i9 + 4) _ _ M' ls H locs (by omega) (by omega) (by omega) (by omega) (by omega) hSR' hl hw) hl hw
    · refine lv_tableIn (tgt := 879) (off := 840) hx hb dL_law_39 (by decide) (by decide) (by decide) (by decide) ?_
      exact lb_12 hl0 hx hb hml hown hts hXs hbl hbA hL9 hY hi hc9 hs9 h0 h3 e1 e2 e3 (show lc_12 n x1 x2 x3 M = some M' from hM') (fun ls H locs hl hw => ih (i9 + 4) _ _ M' ls H locs (by omega) (by omega) (by omega) (by omega) (by omega) hSR' hl hw) hl hw
    · refine lv_tableIn (tgt := 947) (off := 908) hx hb dL_law_39 (by decide) (by decide) (by decide) (by decide) ?_
      exact lb_13 hl0 hx hb hml hown hts hXs hbl hbA hL9 hY hi hc9 hs9 h0 h3 e1 e2 e3 (show lc_13 n x1 x2 x3 M = some M' from hM') (fun ls H locs hl hw => ih (i9 + 4) _ _ M' ls H locs (by omega) (by omega) (by omega) (by omega) (by omega) hSR' hl hw) hl hw
    · refine lv_tableIn (tgt := 1010) (off := 971) hx hb dL_law_39 (by decide) (by decide) (by decide) (by decide) ?_
      exact lb_14 hl0 hx hb hml hown hts hXs hbl hbA hL9 hY hi hc9 hs9 h0 h3 e1 e2 e3 (show lc_14 n x1 x2 x3 M = some M' from hM') (fun ls H locs hl hw => ih (i9 + 4) _ _ M' ls H locs (by omega) (by omega) (by omega) (by omega) (by omega) hSR' hl hw) hl hw
    · refine lv_tableIn (tgt := 1090) (off := 1051) hx hb dL_law_39 (by decide) (by decide) (by decide) (by decide) ?_
      exact lb_15 hl0 hx hb hml hown hts hXs hbl hbA hL9 hY hi hc9 hs9 h0 h3 e1 e2 e3 (show lc_15 n x1 x2 x3 M = some M' from hM') (fun ls H locs hl hw => ih (i9 + 4) _ _ M' ls H locs (by omega) (by omega) (by omega) (by omega) (by omega) hSR' hl hw) hl hw
