theorem u_3 : Cond.methodLink RX5 9 arraycopyName ∈ uU := uU_in (by decide +kernel) (by decide +kernel)
theorem u_4 : Cond.native arraycopyName ∈ uU := uU_in (by decide +kernel) (by decide +kernel)
theorem u_5 : Cond.static arraycopyName ∈ uU := uU_in (by decide +kernel) (by decide +kernel)
theorem u_6 : Cond.initialized "java/lang/System" ∈ uU := uU_in (by decide +kernel) (by decide +kernel)
theorem u_7 : Cond.methodLink RX5 23 yX5_degree ∈ uU := uU_in (by decide +kernel) (by decide +kernel)
theorem u_8 : Cond.static yX5_degree ∈ uU := uU_in (by decide +kernel) (by decide +kernel)
theorem u_9 : Cond.initialized yX5_degree.cls ∈ uU := uU_in (by decide +kernel) (by decide +kernel)
theorem u_10 : Cond.code yX5_degree cX5_degree 2 (some .int) ∈ uU := uU_in (by decide +kernel) (by decide +kernel)
theorem u_11 : Cond.methodLink RX5 31 yX5_signedContent ∈ uU := uU_in (by decide +kernel) (by decide +kernel)
theorem u_12 : Cond.static yX5_signedContent ∈ uU := uU_in (by decide +kernel) (by decide +kernel)
theorem u_13 : Cond.initialized yX5_signedContent.cls ∈ uU := uU_in (by decide +kernel) (by decide +kernel)
theorem u_14 : Cond.code yX5_signedContent cX5_signedContent 5 (some .long) ∈ uU := uU_in (by decide +kernel) (by decide +kernel)
theorem u_15 : Cond.methodLink RX0 17 yX5_degree ∈ uU := uU_in (by decide +kernel) (by decide +kernel)
theorem u_16 : Cond.methodLink RX0 23 yX5_copy ∈ uU := uU_in (by decide +kernel) (by decide +kernel)
theorem u_17 : Cond.static yX5_copy ∈ uU := uU_in (by decide +kernel) (by decide +kernel)
theorem u_18 : Cond.initialized yX5_copy.cls ∈ uU := uU_in (by decide +kernel) (by decide +kernel)
theorem u_19 : Cond.code yX5_copy cX5_copy 2 none ∈ uU := uU_in (by decide +kernel) (by decide +kernel)
theorem u_20 : Cond.methodLink RX0 27 yX5_makePrimitive ∈ uU := uU_in (by decide +kernel) (by decide +kernel)
theorem u_21 : Cond.static yX5_makePrimitive ∈ uU := uU_in (by decide +kernel) (by decide +kernel)
theorem u_22 : Cond.initialized yX5_makePrimitive.cls ∈ uU := uU_in (by decide +kernel) (by decide +kernel)
theorem u_23 : Cond.code yX5_makePrimitive cX5_makePrimitive 4 none ∈ uU := uU_in (by decide +kernel) (by decide +kernel)
theorem u_24 : Cond.fieldLink RX4 18 "LiftFactors$RootFinder" "found" "I" ∈ uU := uU_in (by decide +kernel) (by decide +kernel)
theorem u_25 : Cond.methodLink RX4 28 yX5_degree ∈ uU := uU_in (by decide +kernel) (by decide +kernel)
section WCopy
variable {p : Program} {l : Launch} {e : Env} {R : Room} {s : State} {m : MethodId} {args : Array Value} {below : List Frame} {meth : Method} {c : Code} {H : Heap} {locs : List Loc} {cells slots : Nat} {Q : State → Prop}
variable {cc : ByteArray} {pc : Nat} {ls : Array Slot} {rest : List Value} {G : gG} {A : Nat → Prop} {a : Nat} {H0 : Heap} {L : List Nat} {f : Nat → va_E}
theorem prL_cpy (r0 r1 : Nat → Int64) (n : Nat) : va_cpy r0 r1 0 0 n = prL r0 r1 n := by
  funext j
  by_cases h : j < n
  · rw [pk_cpy_in (Nat.zero_le j) (by omega)]; simp [prL, h]
  · rw [pk_cpy_out (Or.inr (by omega))]; simp [prL, h]
theorem w_copy (hx : p.tables.exec = Jvm.exec) (hb : c.code = cc) (hml : c.maxLocals = ls.size) {own : String} {index : Nat} (hown : s.vm.findClass own = some m.cls) (hts : ∀ w ∈ uU, w.before args s = true) (h1 : Cond.methodLink own index arraycopyName ∈ uU) (h2 : Cond.native arraycopyName ∈ uU) (h3 : Cond.static arraycopyName ∈ uU) (h4 : Cond.initialized "java/lang/System" ∈ uU)
    (hw : wH G A H0 s L f H locs) {a0 n0 n1 : Nat} {r0 r1 : Nat → Int64} (h0L : a0 ∈ L) (haL : a ∈ L) (h0 : f a0 = eJ G n0 r0) (ha : f a = eJ G n1 r1) (n : Nat) (hn : n < 2 ^ 31) (hn0 : n ≤ n0) (hn1 : n ≤ n1) (hframes : 1 ≤ R.frames) (hlocals : (rest.map fun v => v.category).sum + (nativeFrameWords "java/lang/System" "arraycopy" 5 + 11) ≤ R.locals) (hdg : decode cc pc = .ok (.invokestatic index, 3))
    (kk : ∀ (H1 : Heap) (locs1 : List Loc), wH G A H0 s L (va_up f a (eJ G n1 (prL r0 r1 n))) H1 locs1 → W p l e R s m args below meth c H1 locs1 cells slots Q (F0 m (pc + 3) ls rest)) : W p l e R s m args below meth c H locs cells slots Q (F0 m pc ls (.int (nI n) :: .int (nI 0) :: .ref a :: .int (nI 0) :: .ref a0 :: rest)) := by
  obtain ⟨k0, hk0⟩ := wpl_get (f := f) h0L
  obtain ⟨k1, hk1⟩ := wpl_get (f := f) haL
  have hk2 := hk1
  rw [h0] at hk0
  rw [ha] at hk2
  have z : (nI 0).toNatClampNeg = 0 := nI_clamp (by decide)
  have zn : (nI n).toNatClampNeg = n := nI_clamp hn
  refine va_copyl hx hb hml hown (hts _ h1) (hts _ h2) (hts _ h3) (hts _ h4) hw.1 hw.2.1 hw.2.2.1 hw.2.2.2.1 k0 k1 1 1 hk0 hk2 rfl rfl rfl (nI_pos (by decide)) (nI_pos (by decide)) (nI_pos hn) (by rw [z, zn]; omega) (by rw [z, zn]; omega) (fun _ _ => rfl) hframes hlocals hdg (fun H1 locs1 q1 q2 q3 => ?_)
  rw [z, zn, prL_cpy, wpl_set hw.2.2.1 haL hk1] at q1 q2
  exact kk H1 locs1 ⟨hw.1, q1, q2, q3, hw.2.2.2.2⟩
end WCopy
theorem dgp_0 {r : Nat → Int64} : ∀ {n : Nat}, (∀ k, k < n → r k = 0) → dgp r n = 0
  | 0, _ => rfl
  | n + 1, h => by
    unfold dgp
    rw [if_pos (h n (Nat.lt_succ_self n))]
    exact dgp_0 (fun k hk => h k (Nat.lt_succ_of_lt hk))
theorem dgp_z {r : Nat → Int64} : ∀ {n : Nat}, dgp r n = 0 → ∀ k, k < n → r k = 0
  | 0, _, k, hk => absurd hk (Nat.not_lt_zero k)
  | n + 1, h, k, hk => by
    unfold dgp at h
    by_cases h0 : r n = 0
    · rw [if_pos h0] at h
      rcases Nat.lt_or_eq_of_le (Nat.le_of_lt_succ hk) with h1 | h1
      · exact dgp_z h k h1
      · rw [h1]; exact h0
    · rw [if_neg h0] at h; exact absurd h (Nat.succ_ne_zero n)
theorem m1_lt0 : nI 0 - nI 1 < 0 := by decide
theorem m1_nge0 : ¬ 0 ≤ nI 0 - nI 1 := by decide
theorem m1_nge1 : ¬ nI 1 ≤ nI 0 - nI 1 := by decide
set_option maxRecDepth 100000 in
set_option maxHeartbeats 4000000 in
theorem c_X5_copy (l : Launch) (G : gG) (L : List Nat) (f : Nat → va_E) (sz : Nat) (a b n0 n1 : Nat) (r0 r1 : Nat → Int64) (haL : a ∈ L) (hbL : b ∈ L) (ha : f a = eJ G n0 r0) (hbb : f b = eJ G n1 r1) (hn0 : 11 ≤ n0) (hn1 : 11 ≤ n1) :
    Met l yX5_copy (uW yX5_copy cX5_copy 2 none) { frames := 1, cells := 0, slots := 0, locals := 60 } (wIn G [.ref a, .ref b] L f sz) (va_Qv (fun (g : Nat → va_E) => g = va_up f b (eJ G n1 (prL r0 r1 11))) (fun g => wAt G (wA L f sz) L g) (wA L f sz)) 0 0 (wA L f sz) := by
  refine wEnter (by decide) (Nat.le_of_ble_eq_true rfl) ?_
  intro p e s m below meth c ls cx hinit hl hsz hw
  obtain ⟨hx, hb, hr, hml, hown, hts, hlocks⟩ := id cx
  have hown : s.vm.findClass RX5 = some m.cls := hown
  have hl : lv_has ls 2 [(0, .ref a), (1, .ref b)] := hl
  generalize wA L f sz = A at hw ⊢
  refine lv_aload_n hx hb dX5_copy_0 rfl (lv_at hl 0 rfl) ?_
  refine lv_iconst (v := nI 0) hx hb dX5_copy_1 (by decide) ?_
  refine lv_aload_n hx hb dX5_copy_2 rfl (lv_at hl 1 rfl) ?_
  refine lv_iconst (v := nI 0) hx hb dX5_copy_3 (by decide) ?_
  refine lv_bipush (v := nI 11) hx hb dX5_copy_4 (by decide) ?_
  refine w_copy hx hb (hml.trans hl.1.symm) hown hts u_3 u_4 u_5 u_6 hw haL hbL ha hbb 11 (by decide) hn0 hn1 (by decide) (by decide) dX5_copy_6 (fun H locs hw => ?_)
  exact w_vret (lf := fun g => (L, g)) hx hb hr hlocks _ hw (rfl) dX5_copy_9
set_option maxRecDepth 100000 in
set_option maxHeartbeats 4000000 in
theorem c_X5_signedContent0 (l : Launch) (G : gG) (L : List Nat) (f : Nat → va_E) (sz : Nat) (a n : Nat) (r : Nat → Int64) (haL : a ∈ L) (ha : f a = eJ G n r) (hn : n < 2 ^ 31) (hz : dgp r n = 0) :
    Met l yX5_signedContent (uW yX5_signedContent cX5_signedContent 5 (some .long)) { frames := 1, cells := 0, slots := 0, locals := 21 } (wIn G [.ref a] L f sz) (va_Ql (fun (r9 : Int64) (g : Nat → va_E) => r9 = 0 ∧ g = f) (fun g => wAt G (wA L f sz) L g) (wA L f sz)) 0 0 (wA L f sz) := by
  refine wEnter (by decide) (Nat.le_of_ble_eq_true rfl) ?_
  intro p e s m below meth c ls cx hinit hl hsz hw
  obtain ⟨hx, hb, hr, hml, hown, hts, hlocks⟩ := id cx
  have hown : s.vm.findClass RX5 = some m.cls := hown
  have hl : lv_has ls 5 [(0, .ref a)] := hl
  generalize wA L f sz = A at hw ⊢
  refine lv_aload_n hx hb dX5_signedContent_0 rfl (lv_at hl 0 rfl) ?_
  refine w_callSi (lf := fun g => (L, g)) (As := [.ref a]) (rest := []) cx.fix hw (c_X5_degree l G L f _ a n r haL ha hn) (w_cS 1 hts u_7 u_8 u_9 u_10 rfl rfl (by decide) (by decide)) hl.1 rfl (lv_room (Nat.le_of_ble_eq_true rfl)) dX5_signedContent_1 (by decide) (fun r9 u H locs hp hw => ?_)
  obtain ⟨e9, e10⟩ := hp
  have hw : wH G A s.heap s L u H locs := hw
  rw [e10] at hw
  rw [hz] at e9
  subst e9
  refine lv_istore_n (lv' := [(1, .int (nI 0 - nI 1)), (0, .ref a)]) hx hb dX5_signedContent_4 rfl hl (by decide) rfl (fun ls hl => ?_)
  refine lv_lconst (v := 0) hx hb dX5_signedContent_5 (by decide) ?_
  refine lv_lstore_n (lv' := [(2, .long 0), (1, .int (nI 0 - nI 1)), (0, .ref a)]) hx hb dX5_signedContent_6 rfl hl (by decide) rfl (fun ls hl => ?_)
  refine lv_iload_n hx hb dX5_signedContent_7 rfl (lv_at hl 1 rfl) ?_
  refine lv_istore (lv' := [(4, .int (nI 0 - nI 1)), (2, .long 0), (1, .int (nI 0 - nI 1)), (0, .ref a)]) hx hb dX5_signedContent_8 hl (by decide) rfl (fun ls hl => ?_)
  refine lv_iload hx hb dX5_signedContent_10 (lv_at hl 0 rfl) ?_
  refine lv_if_lt (tgt := 36) hx hb dX5_signedContent_12 (by decide) (fun h => ?_) (fun h => ?_)
  · skip
    refine lv_iload_n hx hb dX5_signedContent_36 rfl (lv_at hl 2 rfl) ?_
    refine lv_if_lt (tgt := 53) hx hb dX5_signedContent_37 (by decide) (fun h => ?_) (fun h => ?_)
    · skip
      refine lv_lload_n hx hb dX5_signedContent_53 rfl (lv_at hl 1 rfl) ?_
      exact w_lret (lf := fun g => (L, g)) hx hb hr hlocks f hw (⟨rfl, rfl⟩) dX5_signedContent_54
    · skip
      exact absurd m1_lt0 h
  · skip
    exact absurd m1_lt0 h
set_option maxRecDepth 100000 in
set_option maxHeartbeats 4000000 in
theorem c_X5_makePrimitive0 (l : Launch) (G : gG) (L : List Nat) (f : Nat → va_E) (sz : Nat) (a n : Nat) (r : Nat → Int64) (haL : a ∈ L) (ha : f a = eJ G n r) (hn : n < 2 ^ 31) (hz : dgp r n = 0) :
    Met l yX5_makePrimitive (uW yX5_makePrimitive cX5_makePrimitive 4 none) { frames := 2, cells := 0, slots := 0, locals := 45 } (wIn G [.ref a] L f sz) (va_Qv (fun (g : Nat → va_E) => g = f) (fun g => wAt G (wA L f sz) L g) (wA L f sz)) 0 0 (wA L f sz) := by
  refine wEnter (by decide) (Nat.le_of_ble_eq_true rfl) ?_
  intro p e s m below meth c ls cx hinit hl hsz hw
  obtain ⟨hx, hb, hr, hml, hown, hts, hlocks⟩ := id cx
  have hown : s.vm.findClass RX5 = some m.cls := hown
  have hl : lv_has ls 4 [(0, .ref a)] := hl
  generalize wA L f sz = A at hw ⊢
  refine lv_aload_n hx hb dX5_makePrimitive_0 rfl (lv_at hl 0 rfl) ?_
  refine w_callSl (lf := fun g => (L, g)) (As := [.ref a]) (rest := []) cx.fix hw (c_X5_signedContent0 l G L f _ a n r haL ha hn hz) (w_cS 1 hts u_11 u_12 u_13 u_14 rfl rfl (by decide) (by decide)) hl.1 rfl (lv_room (Nat.le_of_ble_eq_true rfl)) dX5_makePrimitive_1 (by decide) (fun r9 u H locs hp hw => ?_)
  obtain ⟨e9, e10⟩ := hp
  have hw : wH G A s.heap s L u H locs := hw
  rw [e10] at hw
  subst e9
  refine lv_lstore_n (lv' := [(1, .long 0), (0, .ref a)]) hx hb dX5_makePrimitive_4 rfl hl (by decide) rfl (fun ls hl => ?_)
  refine lv_lload_n hx hb dX5_makePrimitive_5 rfl (lv_at hl 0 rfl) ?_
  refine lv_lconst (v := 0) hx hb dX5_makePrimitive_6 (by decide) ?_
  refine n_lcmp_eq (tgt := 17) hx hb dX5_makePrimitive_7 dX5_makePrimitive_8 (by decide) (fun h => ?_) (fun h => ?_)
  · skip
    exact w_vret (lf := fun g => (L, g)) hx hb hr hlocks f hw (rfl) dX5_makePrimitive_17
  · skip
    exact absurd rfl h
set_option maxRecDepth 100000 in
set_option maxHeartbeats 4000000 in
theorem c_X0_find0 (l : Launch) (G : gG) (L : List Nat) (f : Nat → va_E) (sz : Nat) (x a b d : Nat) (r0 r1 r2 : Nat → Int64) (haL : a ∈ L) (hbL : b ∈ L) (hdL : d ∈ L) (ha : f a = eJ G 11 r0) (hbb : f b = eJ G 11 r1) (hdd : f d = eJ G 11 r2) (hz0 : dgp r0 11 = 0) (hz1 : dgp r1 11 = 0) (hbd : b ≠ d) :
    Met l yX0_find (uW yX0_find cX0_find 10 none) { frames := 3, cells := 0, slots := 0, locals := 81 } (wIn G [.ref x, .ref a, .ref b, .ref d] L f sz) (va_Qv (fun (g : Nat → va_E) => g = va_up f d (eJ G 11 (prL r1 r2 11))) (fun g => wAt G (wA L f sz) L g) (wA L f sz)) 0 0 (wA L f sz) := by
  refine wEnter (by decide) (Nat.le_of_ble_eq_true rfl) ?_
  intro p e s m below meth c ls cx hinit hl hsz hw
  obtain ⟨hx, hb, hr, hml, hown, hts, hlocks⟩ := id cx
  have hown : s.vm.findClass RX0 = some m.cls := hown
  have hl : lv_has ls 10 [(0, .ref x), (1, .ref a), (2, .ref b), (3, .ref d)] := hl
  generalize wA L f sz = A at hw ⊢
  refine lv_aload_n hx hb dX0_find_0 rfl (lv_at hl 1 rfl) ?_
  refine w_callSi (lf := fun g => (L, g)) (As := [.ref a]) (rest := []) cx.fix hw (c_X5_degree l G L f _ a 11 r0 haL ha (by decide)) (w_cS 1 hts u_15 u_8 u_9 u_10 rfl rfl (by decide) (by decide)) hl.1 rfl (lv_room (Nat.le_of_ble_eq_true rfl)) dX0_find_1 (by decide) (fun r9 u H locs hp hw => ?_)
  obtain ⟨e9, e10⟩ := hp
  have hw : wH G A s.heap s L u H locs := hw
  rw [e10] at hw
  rw [hz0] at e9
  subst e9
  refine lv_istore (lv' := [(4, .int (nI 0 - nI 1)), (0, .ref x), (1, .ref a), (2, .ref b), (3, .ref d)]) hx hb dX0_find_4 hl (by decide) rfl (fun ls hl => ?_)
  refine lv_aload_n hx hb dX0_find_6 rfl (lv_at hl 3 rfl) ?_
  refine w_callSi (lf := fun g => (L, g)) (As := [.ref b]) (rest := []) cx.fix hw (c_X5_degree l G L f _ b 11 r1 hbL hbb (by decide)) (w_cS 1 hts u_15 u_8 u_9 u_10 rfl rfl (by decide) (by decide)) hl.1 rfl (lv_room (Nat.le_of_ble_eq_true rfl)) dX0_find_7 (by decide) (fun r9 u H locs hp hw => ?_)
  obtain ⟨e9, e10⟩ := hp
  have hw : wH G A s.heap s L u H locs := hw
  rw [e10] at hw
  rw [hz1] at e9
  subst e9
  refine lv_istore (lv' := [(5, .int (nI 0 - nI 1)), (4, .int (nI 0 - nI 1)), (0, .ref x), (1, .ref a), (2, .ref b), (3, .ref d)]) hx hb dX0_find_10 hl (by decide) rfl (fun ls hl => ?_)
  refine lv_iload hx hb dX0_find_12 (lv_at hl 1 rfl) ?_
  refine lv_if_lt (tgt := 22) hx hb dX0_find_14 (by decide) (fun h => ?_) (fun h => ?_)
  · skip
    refine lv_iload hx hb dX0_find_22 (lv_at hl 1 rfl) ?_
    refine lv_if_ge (tgt := 31) hx hb dX0_find_24 (by decide) (fun h => ?_) (fun h => ?_)
    · skip
      exact absurd h m1_nge0
    · skip
      refine lv_aload_n hx hb dX0_find_27 rfl (lv_at hl 4 rfl) ?_
      refine lv_goto (tgt := 32) hx hb dX0_find_28 (by decide) ?_
      refine lv_aload_n hx hb dX0_find_32 rfl (lv_at hl 5 rfl) ?_
      refine w_callSv (lf := fun g => (L, g)) (As := [.ref b, .ref d]) (rest := []) cx.fix hw (c_X5_copy l G L f _ b d 11 11 r1 r2 hbL hdL hbb hdd (Nat.le_refl _) (Nat.le_refl _)) (w_cS 2 hts u_16 u_17 u_18 u_19 rfl rfl (by decide) (by decide)) hl.1 rfl (lv_room (Nat.le_of_ble_eq_true rfl)) dX0_find_33 (by decide) (fun u H locs hp hw => ?_)
      have hw : wH G A s.heap s L u H locs := hw
      rw [hp] at hw
      refine lv_aload_n hx hb dX0_find_36 rfl (lv_at hl 5 rfl) ?_
      refine w_callSv (lf := fun g => (L, g)) (As := [.ref d]) (rest := []) cx.fix hw (c_X5_makePrimitive0 l G L (va_up f d (eJ G 11 (prL r1 r2 11))) _ d 11 (prL r1 r2 11) hdL (va_up_eq _ _ _) (by decide) (dgp_0 (fun k hk => by rw [show prL r1 r2 11 k = r1 k from if_pos hk]; exact dgp_z hz1 k hk))) (w_cS 1 hts u_20 u_21 u_22 u_23 rfl rfl (by decide) (by decide)) hl.1 rfl (lv_room (Nat.le_of_ble_eq_true rfl)) dX0_find_37 (by decide) (fun u H locs hp hw => ?_)
      have hw : wH G A s.heap s L u H locs := hw
      rw [hp] at hw
      exact w_vret (lf := fun g => (L, g)) hx hb hr hlocks _ hw (rfl) dX0_find_40
  · skip
    exact absurd m1_lt0 h
set_option maxRecDepth 100000 in
set_option maxHeartbeats 4000000 in
theorem c_X4_findRoots0 (l : Launch) (G : gG) (L : List Nat) (f : Nat → va_E) (sz : Nat) (x a : Nat) (fs : List Value) (r : Nat → Int64) (hxL : x ∈ L) (hxo : f x = eO 5 fs) (hfl : fs.length = 5) (haL : a ∈ L) (ha : f a = eJ G 11 r) (hz : dgp r 11 = 0) :
    Met l yX4_findRoots (uW yX4_findRoots cX4_findRoots 8 none) { frames := 1, cells := 0, slots := 0, locals := 21 } (wIn G [.ref x, .ref a] L f sz) (va_Qv (fun (g : Nat → va_E) => g = va_up f x (eO 5 (fs.set 2 (.int (nI 0))))) (fun g => wAt G (wA L f sz) L g) (wA L f sz)) 0 0 (wA L f sz) := by
  refine wEnter (by decide) (Nat.le_of_ble_eq_true rfl) ?_
  intro p e s m below meth c ls cx hinit hl hsz hw
  obtain ⟨hx, hb, hr, hml, hown, hts, hlocks⟩ := id cx
  have hown : s.vm.findClass RX4 = some m.cls := hown
  have hl : lv_has ls 8 [(0, .ref x), (1, .ref a)] := hl
  generalize wA L f sz = A at hw ⊢
  refine lv_aload_n hx hb dX4_findRoots_0 rfl (lv_at hl 0 rfl) ?_
  refine lv_iconst (v := nI 0) hx hb dX4_findRoots_1 (by decide) ?_
  refine w_put (C := RX4) (T := TX4) (N := 5) (ci := 5) (ref := "LiftFactors$RootFinder") (ty := .int) (v := .int (nI 0)) hx hb hts inX4_u tyX4 tyX4_ok nmX4 hown hw hxL hxo rfl 2 (by decide) u_24 rfl rfl (by decide +kernel) rfl rfl (by first | omega | decide) dX4_findRoots_2 (fun H locs hw => ?_)
  refine lv_aload_n hx hb dX4_findRoots_5 rfl (lv_at hl 1 rfl) ?_
  refine w_callSi (lf := fun g => (L, g)) (As := [.ref a]) (rest := []) cx.fix hw (c_X5_degree l G L (va_up f x (eO 5 (fs.set 2 (.int (nI 0))))) _ a 11 r haL ((va_up_ne _ _ (ne_E hxo ha (by simp))).trans ha) (by decide)) (w_cS 1 hts u_25 u_8 u_9 u_10 rfl rfl (by decide) (by decide)) hl.1 rfl (lv_room (Nat.le_of_ble_eq_true rfl)) dX4_findRoots_6 (by decide) (fun r9 u H locs hp hw => ?_)
  obtain ⟨e9, e10⟩ := hp
  have hw : wH G A s.heap s L u H locs := hw
  rw [e10] at hw
  rw [hz] at e9
  subst e9
  refine lv_istore_n (lv' := [(2, .int (nI 0 - nI 1)), (0, .ref x), (1, .ref a)]) hx hb dX4_findRoots_9 rfl hl (by decide) rfl (fun ls hl => ?_)
  refine lv_iload_n hx hb dX4_findRoots_10 rfl (lv_at hl 0 rfl) ?_
  refine lv_iconst (v := nI 1) hx hb dX4_findRoots_11 (by decide) ?_
  refine lv_icmp_ge (tgt := 16) hx hb dX4_findRoots_12 (by decide) (fun h => ?_) (fun h => ?_)
  · skip
    exact absurd h m1_nge1
  · skip
    exact w_vret (lf := fun g => (L, g)) hx hb hr hlocks _ hw (rfl) dX4_findRoots_15
