theorem us_0 : Cond.classLink RL 8 RX7 ∈ uU := uU_in (by decide +kernel) (by decide +kernel)
theorem us_1 : Cond.instantiable RX7 15 ∈ uU := uU_in (by decide +kernel) (by decide +kernel)
theorem us_2 : Cond.initialized RX7 ∈ uU := uU_in (by decide +kernel) (by decide +kernel)
theorem us_3 : Cond.methodLink RL 68 yX7_init ∈ uU := uU_in (by decide +kernel) (by decide +kernel)
theorem us_4 : Cond.instanceMethod yX7_init ∈ uU := uU_in (by decide +kernel) (by decide +kernel)
theorem us_5 : Cond.initialized yX7_init.cls ∈ uU := uU_in (by decide +kernel) (by decide +kernel)
theorem us_6 : Cond.code yX7_init cX7_init 1 none ∈ uU := uU_in (by decide +kernel) (by decide +kernel)
theorem us_7 : Cond.classLink RL 69 RX8 ∈ uU := uU_in (by decide +kernel) (by decide +kernel)
theorem us_8 : Cond.instantiable RX8 18 ∈ uU := uU_in (by decide +kernel) (by decide +kernel)
theorem us_9 : Cond.initialized RX8 ∈ uU := uU_in (by decide +kernel) (by decide +kernel)
theorem us_10 : Cond.methodLink RL 71 yX8_init ∈ uU := uU_in (by decide +kernel) (by decide +kernel)
theorem us_11 : Cond.instanceMethod yX8_init ∈ uU := uU_in (by decide +kernel) (by decide +kernel)
theorem us_12 : Cond.initialized yX8_init.cls ∈ uU := uU_in (by decide +kernel) (by decide +kernel)
theorem us_13 : Cond.code yX8_init cX8_init 1 none ∈ uU := uU_in (by decide +kernel) (by decide +kernel)
theorem us_14 : Cond.arrayClass .long ∈ uU := uU_in (by decide +kernel) (by decide +kernel)
theorem lw_arr {args : Array Value} {s : State} {t : FieldType} (h : (Cond.arrayClass t).before args s = true) (ho : t = .int ∨ t = .long ∨ t = .boolean) : ∃ c : ClassId, ArrOfT s c t ∧ va_RA s c t := by
  obtain ⟨c, k, comp, h1, h2, h3⟩ := Cond.arrayClass_spec h
  refine ⟨c, fun N z => ⟨(fun q hq => by cases hq), k, h2, comp, h3⟩, ?_⟩
  rcases ho with rfl | rfl | rfl <;> exact h1
theorem lw_arr2 {args : Array Value} {s : State} {t : FieldType} (h : (Cond.arrayOver (.array t)).before args s = true) : ∃ c : ClassId, ArrOfT s c (.array t) ∧ va_RA s c (.array t) := by
  obtain ⟨comp, c, k, h1, h2, h3, h4, h5⟩ := arrayOverA_spec h
  exact ⟨c, fun N z => ⟨(fun q hq => by cases hq), k, h3, comp, h4⟩, h5⟩
theorem tXs_in : ∀ q ∈ tXs, Cond.stringRef RX7 q.1 q.2 ∈ lw_tbl := by decide +kernel
theorem tXw_in : ∀ w ∈ tXw, w ∈ lw_tbl := by decide +kernel
theorem tXn_in : ∀ q ∈ tXn, Cond.not (.castable q.1 q.2) ∈ flatC (Jvm.Cond.and given_1 narrow_1) := by decide +kernel
theorem st_in : Cond.isRef (.static Bundle.tN "UNASSIGNED_STACK" Bundle.steD) ∈ flatC (Jvm.Cond.and given_1 narrow_1) ∧ Cond.isRef (.static Bundle.tN "SUPPRESSED_SENTINEL" Bundle.listD) ∈ flatC (Jvm.Cond.and given_1 narrow_1) := by decide +kernel
set_option maxHeartbeats 4000000 in
set_option maxRecDepth 100000 in
theorem lw_world {p : Program} {s : State} {m : MethodId} {meth : Method} {c : Code} {b L : Nat} {xs : Nat → Int32} (C0 : lw_At p s m meth c b L xs) : ∃ G : gG, va_K G.1 vwCl (wty G) s ∧ kX s ∧ tX (fun q : Nat => s.heap.size ≤ q) s s.heap := by
  obtain ⟨hx, hb, hr, hml, hown, hts0, hXs, hbl, hlocks, hgv⟩ := C0
  obtain ⟨c0, i0, k0⟩ := u_known (C := RJx00060) (T := TJx00060) (N := 6) (n := 6) hts0 inJx00060 (hts0 (.instantiable RJx00060 6) (by decide +kernel))
  obtain ⟨c1, i1, k1⟩ := u_known (C := RX0) (T := TX0) (N := 2) (n := 2) hts0 inX0 (hts0 (.instantiable RX0 2) (by decide +kernel))
  obtain ⟨c2, i2, k2⟩ := u_known (C := RX1) (T := TX1) (N := 2) (n := 2) hts0 inX1 (hts0 (.instantiable RX1 2) (by decide +kernel))
  obtain ⟨c3, i3, k3⟩ := u_known (C := RX2) (T := TX2) (N := 11) (n := 11) hts0 inX2 (hts0 (.instantiable RX2 11) (by decide +kernel))
  obtain ⟨c4, i4, k4⟩ := u_known (C := RX3) (T := TX3) (N := 5) (n := 5) hts0 inX3 (hts0 (.instantiable RX3 5) (by decide +kernel))
  obtain ⟨c5, i5, k5⟩ := u_known (C := RX4) (T := TX4) (N := 5) (n := 5) hts0 inX4 (hts0 (.instantiable RX4 5) (by decide +kernel))
  obtain ⟨c6, i6, k6⟩ := u_known (C := RX6) (T := TX6) (N := 9) (n := 9) hts0 inX6 (hts0 (.instantiable RX6 9) (by decide +kernel))
  obtain ⟨c7, i7, k7⟩ := u_known (C := RX7) (T := TX7) (N := 15) (n := 15) hts0 inX7 (hts0 (.instantiable RX7 15) (by decide +kernel))
  obtain ⟨c8, i8, k8⟩ := u_known (C := RX8) (T := TX8) (N := 18) (n := 18) hts0 inX8 (hts0 (.instantiable RX8 18) (by decide +kernel))
  obtain ⟨aI, hI⟩ := lw_arr (hts0 (.arrayClass .int) (by decide +kernel)) (Or.inl rfl)
  obtain ⟨aJ, hJ⟩ := lw_arr (hts0 (.arrayClass .long) (by decide +kernel)) (Or.inr (Or.inl rfl))
  obtain ⟨aZ, hZ⟩ := lw_arr (hts0 (.arrayClass .boolean) (by decide +kernel)) (Or.inr (Or.inr rfl))
  obtain ⟨aP, hP⟩ := lw_arr2 (hts0 (.arrayOver (.array .int)) (by decide +kernel))
  obtain ⟨aQ, hQ⟩ := lw_arr2 (hts0 (.arrayOver (.array .long)) (by decide +kernel))
  refine ⟨((fun k => if k = 0 then c0 else if k = 1 then c1 else if k = 2 then c2 else if k = 3 then c3 else if k = 4 then c4 else if k = 5 then c5 else if k = 6 then c6 else if k = 7 then c7 else c8, fun k => if k = 0 then i0 else if k = 1 then i1 else if k = 2 then i2 else if k = 3 then i3 else if k = 4 then i4 else if k = 5 then i5 else if k = 6 then i6 else if k = 7 then i7 else i8), fun k => if k = 0 then aI else if k = 1 then aJ else if k = 2 then aZ else if k = 3 then aP else aQ), ⟨fun k q hq => ?_, fun k q hq => ?_⟩, ?_, ?_⟩
  · match k, hq with
    | 0, hq => cases hq; exact k0
    | 1, hq => cases hq; exact k1
    | 2, hq => cases hq; exact k2
    | 3, hq => cases hq; exact k3
    | 4, hq => cases hq; exact k4
    | 5, hq => cases hq; exact k5
    | 6, hq => cases hq; exact k6
    | 7, hq => cases hq; exact k7
    | 8, hq => cases hq; exact k8
    | k + 9, hq => simp [vwCl] at hq
  · match k, hq with
    | 0, hq => cases hq; exact hI
    | 1, hq => cases hq; exact hJ
    | 2, hq => cases hq; exact hZ
    | 3, hq => cases hq; exact hP
    | 4, hq => cases hq; exact hQ
    | k + 5, hq => simp at hq
  · exact ⟨hts0 (.arrayOver (.array .int)) (by decide +kernel), hts0 (.arrayOver (.array .long)) (by decide +kernel), va_Nw.of rfl (hts0 (.methodLinkNest RX7 43 yX3_init RX7) (by decide +kernel)), va_Nw.of rfl (hts0 (.methodLinkNest RX7 50 yX1_init RX7) (by decide +kernel)), va_Nw.of rfl (hts0 (.methodLinkNest RX7 84 yX4_init RX7) (by decide +kernel))⟩
  · refine ⟨vx_Zqof (hts0 (.laysStatic Bundle.tN "UNASSIGNED_STACK" Bundle.steD) (by decide +kernel)) (hts0 (.initialized Bundle.tN) (by decide +kernel)) (flat_of_before _ hgv _ st_in.1) (fun a h1 h2 => Nat.not_le.mpr h1 h2), vx_Zqof (hts0 (.laysStatic Bundle.tN "SUPPRESSED_SENTINEL" Bundle.listD) (by decide +kernel)) (hts0 (.initialized Bundle.tN) (by decide +kernel)) (flat_of_before _ hgv _ st_in.2) (fun a h1 h2 => Nat.not_le.mpr h1 h2), fun q hq => ?_, fun w hw => va_Nw.of (tXw_on w hw) (hts0 w (tXw_in w hw)), fun q hq => va_Nc.of (flat_of_before _ hgv _ (tXn_in q hq))⟩
    have h1 := hts0 _ (tXs_in q hq)
    obtain ⟨k9, cf, i9, a, -, -, -, -, -, he⟩ := Cond.stringRef_spec (k7.2.1) h1
    exact ⟨a, vk_R.of h1 he⟩
set_option maxHeartbeats 4000000 in
set_option maxRecDepth 100000 in
theorem whole_start {p : Program} {e : Env} {s : State} {m : MethodId} {below : List Frame} {meth : Method} {c : Code} (l : Launch) (hl0 : l.stackTraces = false) {b L : Nat} {xs : Nat → Int32} (hL : L ≤ 4) (C0 : lw_At p s m meth c b L xs) : W p l e room_1 s m #[Value.ref b] below meth c s.heap [] 0 0 (lw_Z below #[Value.ref b] s) (entryFrame m ([Value.ref b] : List Value).toArray 7) := by
  obtain ⟨G, hK, hk, hX⟩ := lw_world C0
  obtain ⟨hx, hb, hr, hml, hown, hts0, hXs, hbl, hlocks, hgv⟩ := C0
  have hts : ∀ w ∈ uU, w.before #[Value.ref b] s = true := fun w h => hts0 w (uU_tbl h)
  have hown : s.vm.findClass RL = some m.cls := hown
  have hb : c.code = cL_law := hb
  obtain ⟨A, hAe⟩ : ∃ A : Nat → Prop, A = fun q : Nat => s.heap.size ≤ q := ⟨_, rfl⟩
  rw [← hAe] at hX
  have hAh : ∀ q, A q → s.heap.size ≤ q := fun q h => by rw [hAe] at h; exact h
  have hbA : ¬ A b := fun h => Nat.not_le.mpr hbl (hAh b h)
  have hw : wH G A s.heap s [] (fun _ => eO 0 []) s.heap [] := ⟨hK, fun k q h => by simp [va_pl] at h, ⟨fun i j p q h => by simp [va_pl] at h, fun k q h => by simp [va_pl] at h⟩, va_S.rf, fun q h => by rw [hAe]; exact h⟩
  have hl := lv_entry ([.ref b]) (n := 7) (Nat.le_of_ble_eq_true rfl)
  rw [lg_entry_eq]
  generalize (lg_sl ([.ref b]) ++ List.replicate (7 - (lg_sl ([.ref b])).length) Slot.unset).toArray = ls at hl ⊢
  have hl : lv_has ls 7 [(0, .ref b)] := hl
  refine k_new (own := RL) (C := RX7) (T := TX7) (N := 15) (ci := 7) hx hb hts inX7_u tyX7 tyX7_ok hown us_0 us_1 us_2 hw rfl [.null, .int 0, .null, .null, .int 0, .null, .null, .null, .null, .null, .null, .null, .null, .null, .null] (by decide +kernel) (by decide) (by decide) dL_law_0 (fun xo H hq1 hw => ?_)
  have hw : wH G A s.heap s [xo] (va_up (fun _ => eO 0 []) xo (eO 7 [.null, .int 0, .null, .null, .int 0, .null, .null, .null, .null, .null, .null, .null, .null, .null, .null])) H [] := hw
  refine lv_dup hx hb dL_law_3 rfl ?_
  refine k_callI (As := []) (rest := [.ref xo]) ⟨hx, hb, hml, hown, hts⟩ hk hw (k_X7_init l G _ _ _ xo [.null, .int 0, .null, .null, .int 0, .null, .null, .null, .null, .null, .null, .null, .null, .null, .null] (List.mem_singleton.mpr rfl) (va_up_eq _ _ _) rfl) (k_cI 0 hts us_3 us_4 us_5 us_6 rfl rfl (by decide) (by decide) (by decide)) hl.1 rfl (lv_room (Nat.le_of_ble_eq_true rfl)) dL_law_4 (by decide) (fun u H locs hp hw => ?_)
  obtain ⟨L1, f1⟩ := u
  have hw : wH G A s.heap s L1 f1 H locs := hw
  obtain ⟨hs1, hf1, hz1⟩ := hp
  obtain ⟨own, hoe⟩ : ∃ own : Nat → Prop, own = kOwn [xo] xo (L1, f1) := ⟨_, rfl⟩
  rw [← hoe] at hz1
  have hxm : xo ∈ L1 := hz1.mem
  have hnotown : ∀ q, q ∉ L1 → ¬ own q := fun q h h9 => by
    rw [hoe] at h9
    rcases h9 with h9 | h9
    · exact h (by rw [h9]; exact hxm)
    · exact h h9.1
  refine lv_astore_n (lv' := [(1, .ref xo), (0, .ref b)]) hx hb dL_law_7 rfl hl (by decide) rfl (fun ls hl => ?_)
  refine k_new (own := RL) (C := RX8) (T := TX8) (N := 18) (ci := 8) hx hb hts inX8_u tyX8 tyX8_ok hown us_7 us_8 us_9 hw rfl [.null, .null, .int 0, .int 0, .int 0, .null, .null, .null, .null, .long 0, .int 0, .int 0, .null, .null, .null, .int 0, .null, .null] (by decide +kernel) (by decide) (by decide) dL_law_8 (fun yo H hq2 hw => ?_)
  refine lv_dup hx hb dL_law_11 rfl ?_
  refine k_callI (As := []) (rest := [.ref yo]) ⟨hx, hb, hml, hown, hts⟩ hk hw (k_X8_init l G _ _ _ yo [.null, .null, .int 0, .int 0, .int 0, .null, .null, .null, .null, .long 0, .int 0, .int 0, .null, .null, .null, .int 0, .null, .null] (List.mem_append_right _ (List.mem_singleton.mpr rfl)) (va_up_eq _ _ _) rfl rfl rfl rfl) (k_cI 0 hts us_10 us_11 us_12 us_13 rfl rfl (by decide) (by decide) (by decide)) hl.1 rfl (lv_room (Nat.le_of_ble_eq_true rfl)) dL_law_12 (by decide) (fun u H locs hp hw => ?_)
  obtain ⟨L2, f2⟩ := u
  have hw : wH G A s.heap s L2 f2 H locs := hw
  obtain ⟨hs2, hf2, ww, dd, ca, hm2, nww, ndd, nca⟩ := hp
  have hs2 : ∀ q ∈ L1 ++ [yo], q ∈ L2 := hs2
  have hf2 : ∀ q ∈ L1 ++ [yo], q ≠ yo → f2 q = va_up f1 yo (eO 8 [.null, .null, .int 0, .int 0, .int 0, .null, .null, .null, .null, .long 0, .int 0, .int 0, .null, .null, .null, .int 0, .null, .null]) q := hf2
  have hm2 : mZ G L2 f2 yo ww dd ca := hm2
  refine lv_astore_n (lv' := [(2, .ref yo), (1, .ref xo), (0, .ref b)]) hx hb dL_law_15 rfl hl (by decide) rfl (fun ls hl => ?_)
  refine lv_iconst (v := nI 1) hx hb dL_law_16 (by decide) ?_
  refine k_newJ hx hb hts us_14 hw 1 (by decide) (by decide) (by decide) dL_law_17 (fun ou H hq3 hw => ?_)
  refine lv_astore_n (lv' := [(3, .ref ou), (2, .ref yo), (1, .ref xo), (0, .ref b)]) hx hb dL_law_19 rfl hl (by decide) rfl (fun ls hl => ?_)
  refine lv_iconst (v := nI 0) hx hb dL_law_20 (by decide) ?_
  refine lv_istore (lv' := [(4, .int (nI 0)), (3, .ref ou), (2, .ref yo), (1, .ref xo), (0, .ref b)]) hx hb dL_law_21 hl (by decide) rfl (fun ls hl => ?_)
  have hne2 : ∀ q ∈ L2, q ≠ ou := fun q h h9 => hq3 (by rw [← h9]; exact h)
  have hf3 : ∀ q ∈ L2, va_up f2 ou (eJ G 1 (fun _ => 0)) q = f2 q := fun q h => va_up_ne _ _ (hne2 q h)
  have hzF : cZ G (L2 ++ [ou]) (va_up f2 ou (eJ G 1 (fun _ => 0))) xo own := hz1.keep (fun q h => List.mem_append_left _ (hs2 q (List.mem_append_left _ h))) (fun q h => by
    have hny : q ≠ yo := fun h9 => hq2 (by rw [← h9]; exact h)
    rw [hf3 q (hs2 q (List.mem_append_left _ h)), hf2 q (List.mem_append_left _ h) hny]
    exact va_up_ne _ _ hny)
  obtain ⟨hyL, hwL, hdL, hcL, -⟩ := hm2.mems
  have hmF : mZ G (L2 ++ [ou]) (va_up f2 ou (eJ G 1 (fun _ => 0))) yo ww dd ca := hm2.keep (fun q h => List.mem_append_left _ h) (hf3 _ hyL) (hf3 _ hwL) (hf3 _ hdL) (hf3 _ hcL)
  have hno : ¬ own ou := hnotown ou (fun h => hq3 (hs2 _ (List.mem_append_left _ h)))
  have ny : ¬ own yo := hnotown yo hq2
  have nw : ¬ own ww := hnotown ww (fun h => nww (List.mem_append_left _ h))
  have nd : ¬ own dd := hnotown dd (fun h => ndd (List.mem_append_left _ h))
  have nc : ¬ own ca := hnotown ca (fun h => nca (List.mem_append_left _ h))
  rcases Nat.lt_or_ge L 4 with h4 | h4
  · exact law_exit hx hb hr hml hown hts hlocks hXs hbl hbA hAh hw 0 (by omega) hL (by decide) (by decide) (by decide) ls (lv_sub hl [0, 4] rfl)
  · have hL4 : L = 4 := by omega
    subst hL4
    refine lv_iload hx hb dL_law_23 (lv_at hl 0 rfl) ?_
    refine lv_aload_n hx hb dL_law_25 rfl (lv_at hl 4 rfl) ?_
    refine va_slen hx hb hXs hbl hbA hw.2.2.2.1 dL_law_26 ?_
    refine lv_iconst (v := nI 4) hx hb dL_law_27 (by decide) ?_
    refine lv_isub hx hb dL_law_28 ?_
    refine lv_icmp_gt (tgt := 1109) hx hb dL_law_29 (by decide) (fun h => absurd h (by decide)) (fun _ => ?_)
    refine lv_aload_n hx hb dL_law_32 rfl (lv_at hl 4 rfl) ?_
    refine lv_iload hx hb dL_law_33 (lv_at hl 0 rfl) ?_
    refine va_sld hx hb hXs hbl hbA hw.2.2.2.1 (i := nI 0) (vp_in_nI (by decide) (by decide)) dL_law_35 ?_
    refine w_ti (y := xs 0) (by rw [nI_clamp (by decide)]) ?_
    refine lv_bipush (v := nI 15) hx hb dL_law_36 (by decide) ?_
    refine lv_iand hx hb dL_law_38 ?_
    obtain ⟨k, hk4, ek⟩ := pk_andE (xs 0) (m := nI 15) 4 (by decide)
    refine w_ti (y := nI k) ek ?_
    have hk16 : k = 0 ∨ k = 1 ∨ k = 2 ∨ k = 3 ∨ k = 4 ∨ k = 5 ∨ k = 6 ∨ k = 7 ∨ k = 8 ∨ k = 9 ∨ k = 10 ∨ k = 11 ∨ k = 12 ∨ k = 13 ∨ k = 14 ∨ k = 15 := by omega
    clear ek hk4
    rcases hk16 with rfl | rfl | rfl | rfl | rfl | rfl | rfl | rfl | rfl | rfl | rfl | rfl | rfl | rfl | rfl | rfl
    · refine lv_tableIn (tgt := 116) (off := 77) hx hb dL_law_39 (by decide) (by decide) (by decide) (by decide) ?_
      exact law_case_0 hl0 hx hb hr hml hown hts hlocks hXs hbl hbA hAh hX hw hzF hmF (List.mem_append_right _ (List.mem_singleton.mpr rfl)) (va_up_eq _ _ _) hno ny nw nd nc (hne2 _ hyL) (hne2 _ hwL) (hne2 _ hdL) (hne2 _ hcL) (by decide) (by decide) ls hl
    · refine lv_tableIn (tgt := 160) (off := 121) hx hb dL_law_39 (by decide) (by decide) (by decide) (by decide) ?_
      exact law_case_1 hl0 hx hb hr hml hown hts hlocks hXs hbl hbA hAh hX hw hzF hmF (List.mem_append_right _ (List.mem_singleton.mpr rfl)) (va_up_eq _ _ _) hno ny nw nd nc (hne2 _ hyL) (hne2 _ hwL) (hne2 _ hdL) (hne2 _ hcL) (by decide) (by decide) ls hl
    · refine lv_tableIn (tgt := 247) (off := 208) hx hb dL_law_39 (by decide) (by decide) (by decide) (by decide) ?_
      exact law_case_2 hl0 hx hb hr hml hown hts hlocks hXs hbl hbA hAh hX hw hzF hmF (List.mem_append_right _ (List.mem_singleton.mpr rfl)) (va_up_eq _ _ _) hno ny nw nd nc (hne2 _ hyL) (hne2 _ hwL) (hne2 _ hdL) (hne2 _ hcL) (by decide) (by decide) ls hl
    · refine lv_tableIn (tgt := 315) (off := 276) hx hb dL_law_39 (by decide) (by decide) (by decide) (by decide) ?_
      exact law_case_3 hl0 hx hb hr hml hown hts hlocks hXs hbl hbA hAh hX hw hzF hmF (List.mem_append_right _ (List.mem_singleton.mpr rfl)) (va_up_eq _ _ _) hno ny nw nd nc (hne2 _ hyL) (hne2 _ hwL) (hne2 _ hdL) (hne2 _ hcL) (by decide) (by decide) ls hl
    · refine lv_tableIn (tgt := 383) (off := 344) hx hb dL_law_39 (by decide) (by decide) (by decide) (by decide) ?_
      exact law_case_4 hl0 hx hb hr hml hown hts hlocks hXs hbl hbA hAh hX hw hzF hmF (List.mem_append_right _ (List.mem_singleton.mpr rfl)) (va_up_eq _ _ _) hno ny nw nd nc (hne2 _ hyL) (hne2 _ hwL) (hne2 _ hdL) (hne2 _ hcL) (by decide) (by decide) ls hl
    · refine lv_tableIn (tgt := 451) (off := 412) hx hb dL_law_39 (by decide) (by decide) (by decide) (by decide) ?_
      exact law_case_5 hl0 hx hb hr hml hown hts hlocks hXs hbl hbA hAh hX hw hzF hmF (List.mem_append_right _ (List.mem_singleton.mpr rfl)) (va_up_eq _ _ _) hno ny nw nd nc (hne2 _ hyL) (hne2 _ hwL) (hne2 _ hdL) (hne2 _ hcL) (by decide) (by decide) ls hl
    · refine lv_tableIn (tgt := 519) (off := 480) hx hb dL_law_39 (by decide) (by decide) (by decide) (by decide) ?_
      exact law_case_6 hl0 hx hb hr hml hown hts hlocks hXs hbl hbA hAh hX hw hzF hmF (List.mem_append_right _ (List.mem_singleton.mpr rfl)) (va_up_eq _ _ _) hno ny nw nd nc (hne2 _ hyL) (hne2 _ hwL) (hne2 _ hdL) (hne2 _ hcL) (by decide) (by decide) ls hl
    · refine lv_tableIn (tgt := 575) (off := 536) hx hb dL_law_39 (by decide) (by decide) (by decide) (by decide) ?_
      exact law_case_7 hl0 hx hb hr hml hown hts hlocks hXs hbl hbA hAh hX hw hzF hmF (List.mem_append_right _ (List.mem_singleton.mpr rfl)) (va_up_eq _ _ _) hno ny nw nd nc (hne2 _ hyL) (hne2 _ hwL) (hne2 _ hdL) (hne2 _ hcL) (by decide) (by decide) ls hl
    · refine lv_tableIn (tgt := 631) (off := 592) hx hb dL_law_39 (by decide) (by decide) (by decide) (by decide) ?_
      exact law_case_8 hl0 hx hb hr hml hown hts hlocks hXs hbl hbA hAh hX hw hzF hmF (List.mem_append_right _ (List.mem_singleton.mpr rfl)) (va_up_eq _ _ _) hno ny nw nd nc (hne2 _ hyL) (hne2 _ hwL) (hne2 _ hdL) (hne2 _ hcL) (by decide) (by decide) ls hl
    · refine lv_tableIn (tgt := 687) (off := 648) hx hb dL_law_39 (by decide) (by decide) (by decide) (by decide) ?_
      exact law_case_9 hl0 hx hb hr hml hown hts hlocks hXs hbl hbA hAh hX hw hzF hmF (List.mem_append_right _ (List.mem_singleton.mpr rfl)) (va_up_eq _ _ _) hno ny nw nd nc (hne2 _ hyL) (hne2 _ hwL) (hne2 _ hdL) (hne2 _ hcL) (by decide) (by decide) ls hl
    · refine lv_tableIn (tgt := 743) (off := 704) hx hb dL_law_39 (by decide) (by decide) (by decide) (by decide) ?_
      exact law_case_10 hl0 hx hb hr hml hown hts hlocks hXs hbl hbA hAh hX hw hzF hmF (List.mem_append_right _ (List.mem_singleton.mpr rfl)) (va_up_eq _ _ _) hno ny nw nd nc (hne2 _ hyL) (hne2 _ hwL) (hne2 _ hdL) (hne2 _ hcL) (by decide) (by decide) ls hl
    · refine lv_tableIn (tgt := 823) (off := 784) hx hb dL_law_39 (by decide) (by decide) (by decide) (by decide) ?_
      exact law_case_11 hl0 hx hb hr hml hown hts hlocks hXs hbl hbA hAh hX hw hzF hmF (List.mem_append_right _ (List.mem_singleton.mpr rfl)) (va_up_eq _ _ _) hno ny nw nd nc (hne2 _ hyL) (hne2 _ hwL) (hne2 _ hdL) (hne2 _ hcL) (by decide) (by decide) ls hl
    · refine lv_tableIn (tgt := 879) (off := 840) hx hb dL_law_39 (by decide) (by decide) (by decide) (by decide) ?_
      exact law_case_12 hl0 hx hb hr hml hown hts hlocks hXs hbl hbA hAh hX hw hzF hmF (List.mem_append_right _ (List.mem_singleton.mpr rfl)) (va_up_eq _ _ _) hno ny nw nd nc (hne2 _ hyL) (hne2 _ hwL) (hne2 _ hdL) (hne2 _ hcL) (by decide) (by decide) ls hl
    · refine lv_tableIn (tgt := 947) (off := 908) hx hb dL_law_39 (by decide) (by decide) (by decide) (by decide) ?_
      exact law_case_13 hl0 hx hb hr hml hown hts hlocks hXs hbl hbA hAh hX hw hzF hmF (List.mem_append_right _ (List.mem_singleton.mpr rfl)) (va_up_eq _ _ _) hno ny nw nd nc (hne2 _ hyL) (hne2 _ hwL) (hne2 _ hdL) (hne2 _ hcL) (by decide) (by decide) ls hl
    · refine lv_tableIn (tgt := 1010) (off := 971) hx hb dL_law_39 (by decide) (by decide) (by decide) (by decide) ?_
      exact law_case_14 hl0 hx hb hr hml hown hts hlocks hXs hbl hbA hAh hX hw hzF hmF (List.mem_append_right _ (List.mem_singleton.mpr rfl)) (va_up_eq _ _ _) hno ny nw nd nc (hne2 _ hyL) (hne2 _ hwL) (hne2 _ hdL) (hne2 _ hcL) (by decide) (by decide) ls hl
    · refine lv_tableIn (tgt := 1090) (off := 1051) hx hb dL_law_39 (by decide) (by decide) (by decide) (by decide) ?_
      exact law_case_15 hl0 hx hb hr hml hown hts hlocks hXs hbl hbA hAh hX hw hzF hmF (List.mem_append_right _ (List.mem_singleton.mpr rfl)) (va_up_eq _ _ _) hno ny nw nd nc (hne2 _ hyL) (hne2 _ hwL) (hne2 _ hdL) (hne2 _ hcL) (by decide) (by decide) ls hl
