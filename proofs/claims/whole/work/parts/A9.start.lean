theorem uk_116 : Cond.classLink RL 8 RX7 ∈ uU := uU_in (by decide +kernel) (by decide +kernel)
theorem uk_117 : Cond.instantiable RX7 15 ∈ uU := uU_in (by decide +kernel) (by decide +kernel)
theorem uk_118 : Cond.initialized RX7 ∈ uU := uU_in (by decide +kernel) (by decide +kernel)
theorem uk_119 : Cond.methodLink RL 68 yX7_init ∈ uU := uU_in (by decide +kernel) (by decide +kernel)
theorem uk_120 : Cond.instanceMethod yX7_init ∈ uU := uU_in (by decide +kernel) (by decide +kernel)
theorem uk_121 : Cond.initialized yX7_init.cls ∈ uU := uU_in (by decide +kernel) (by decide +kernel)
theorem uk_122 : Cond.code yX7_init cX7_init 1 none ∈ uU := uU_in (by decide +kernel) (by decide +kernel)
theorem uk_123 : Cond.classLink RL 69 RX8 ∈ uU := uU_in (by decide +kernel) (by decide +kernel)
theorem uk_124 : Cond.instantiable RX8 18 ∈ uU := uU_in (by decide +kernel) (by decide +kernel)
theorem uk_125 : Cond.initialized RX8 ∈ uU := uU_in (by decide +kernel) (by decide +kernel)
theorem uk_126 : Cond.methodLink RL 71 yX8_init ∈ uU := uU_in (by decide +kernel) (by decide +kernel)
theorem uk_127 : Cond.instanceMethod yX8_init ∈ uU := uU_in (by decide +kernel) (by decide +kernel)
theorem uk_128 : Cond.initialized yX8_init.cls ∈ uU := uU_in (by decide +kernel) (by decide +kernel)
theorem uk_129 : Cond.code yX8_init cX8_init 1 none ∈ uU := uU_in (by decide +kernel) (by decide +kernel)
theorem lw_arr {args : Array Value} {s : State} {t : FieldType} (h : (Cond.arrayClass t).before args s = true) (ho : t = .int ∨ t = .long ∨ t = .boolean) : ∃ c : ClassId, ArrOfT s c t ∧ va_RA s c t := by
  obtain ⟨c, k, comp, h1, h2, h3⟩ := Cond.arrayClass_spec h
  refine ⟨c, fun N z => ⟨(fun q hq => by cases hq), k, h2, comp, h3⟩, ?_⟩
  rcases ho with rfl | rfl | rfl <;> exact h1
theorem lw_arr2 {args : Array Value} {s : State} {t : FieldType} (h : (Cond.arrayOver (.array t)).before args s = true) : ∃ c : ClassId, ArrOfT s c (.array t) ∧ va_RA s c (.array t) := by
  obtain ⟨comp, c, k, h1, h2, h3, h4, h5⟩ := arrayOverA_spec h
  exact ⟨c, fun N z => ⟨(fun q hq => by cases hq), k, h3, comp, h4⟩, h5⟩
theorem tXs_in : ∀ q ∈ tXs, Cond.stringRef RX7 q.1 q.2 ∈ lw_tbl := by decide +kernel
theorem tXw_in : ∀ w ∈ tXw, w ∈ lw_tbl := by decide +kernel
theorem tXn_in : ∀ q ∈ tXn, Cond.not (.castable q.1 q.2) ∈ flatC (Jvm.Cond.and given_1 narrow_1) := by decide +kernel
theorem st_in : Cond.isRef (.static Bundle.tN "UNASSIGNED_STACK" Bundle.steD) ∈ flatC (Jvm.Cond.and given_1 narrow_1) ∧ Cond.isRef (.static Bundle.tN "SUPPRESSED_SENTINEL" Bundle.listD) ∈ flatC (Jvm.Cond.and given_1 narrow_1) := by decide +kernel
set_option maxHeartbeats 4000000 in
set_option maxRecDepth 100000 in
theorem lw_world {p : Program} {s : State} {m : MethodId} {meth : Method} {c : Code} {b L : Nat} {xs : Nat → Int32} (C0 : lw_At p s m meth c b L xs) : ∃ G : gG, va_K G.1 vwCl (wty G) s ∧ kX s ∧ tX (fun q : Nat => s.heap.size ≤ q) s s.heap := by
  obtain ⟨hx, hb, hr, hml, hown, hts0, hXs, hbl, hlocks, hgv⟩ := C0
  obtain ⟨c0, i0, k0⟩ := u_known (C := RJx00060) (T := TJx00060) (N := 6) (n := 6) hts0 inJx00060 (hts0 (.instantiable RJx00060 6) (by decide +kernel))
  obtain ⟨c1, i1, k1⟩ := u_known (C := RX0) (T := TX0) (N := 2) (n := 2) hts0 inX0 (hts0 (.instantiable RX0 2) (by decide +kernel))
  obtain ⟨c2, i2, k2⟩ := u_known (C := RX1) (T := TX1) (N := 2) (n := 2) hts0 inX1 (hts0 (.instantiable RX1 2) (by decide +kernel))
  obtain ⟨c3, i3, k3⟩ := u_known (C := RX2) (T := TX2) (N := 11) (n := 11) hts0 inX2 (hts0 (.instantiable RX2 11) (by decide +kernel))
  obtain ⟨c4, i4, k4⟩ := u_known (C := RX3) (T := TX3) (N := 5) (n := 5) hts0 inX3 (hts0 (.instantiable RX3 5) (by decide +kernel))
  obtain ⟨c5, i5, k5⟩ := u_known (C := RX4) (T := TX4) (N := 5) (n := 5) hts0 inX4 (hts0 (.instantiable RX4 5) (by decide +kernel))
  obtain ⟨c6, i6, k6⟩ := u_known (C := RX6) (T := TX6) (N := 9) (n := 9) hts0 inX6 (hts0 (.instantiable RX6 9) (by decide +kernel))
  obtain ⟨c7, i7, k7⟩ := u_known (C := RX7) (T := TX7) (N := 15) (n := 15) hts0 inX7 (hts0 (.instantiable RX7 15) (by decide +kernel))
  obtain ⟨c8, i8, k8⟩ := u_known (C := RX8) (T := TX8) (N := 18) (n := 18) hts0 inX8 (hts0 (.instantiable RX8 18) (by decide +kernel))
  obtain ⟨aI, hI⟩ := lw_arr (hts0 (.arrayClass .int) (by decide +kernel)) (Or.inl rfl)
  obtain ⟨aJ, hJ⟩ := lw_arr (hts0 (.arrayClass .long) (by decide +kernel)) (Or.inr (Or.inl rfl))
  obtain ⟨aZ, hZ⟩ := lw_arr (hts0 (.arrayClass .boolean) (by decide +kernel)) (Or.inr (Or.inr rfl))
  obtain ⟨aP, hP⟩ := lw_arr2 (hts0 (.arrayOver (.array .int)) (by decide +kernel))
  obtain ⟨aQ, hQ⟩ := lw_arr2 (hts0 (.arrayOver (.array .long)) (by decide +kernel))
  refine ⟨((fun k => if k = 0 then c0 else if k = 1 then c1 else if k = 2 then c2 else if k = 3 then c3 else if k = 4 then c4 else if k = 5 then c5 else if k = 6 then c6 else if k = 7 then c7 else c8, fun k => if k = 0 then i0 else if k = 1 then i1 else if k = 2 then i2 else if k = 3 then i3 else if k = 4 then i4 else if k = 5 then i5 else if k = 6 then i6 else if k = 7 then i7 else i8), fun k => if k = 0 then aI else if k = 1 then aJ else if k = 2 then aZ else if k = 3 then aP else aQ), ⟨fun k q hq => ?_, fun k q hq => ?_⟩, ?_, ?_⟩
  · match k, hq with
    | 0, hq => cases hq; exact k0
    | 1, hq => cases hq; exact k1
    | 2, hq => cases hq; exact k2
    | 3, hq => cases hq; exact k3
    | 4, hq => cases hq; exact k4
    | 5, hq => cases hq; exact k5
    | 6, hq => cases hq; exact k6
    | 7, hq => cases hq; exact k7
    | 8, hq => cases hq; exact k8
    | k + 9, hq => simp [vwCl] at hq
  · match k, hq with
    | 0, hq => cases hq; exact hI
    | 1, hq => cases hq; exact hJ
    | 2, hq => cases hq; exact hZ
    | 3, hq => cases hq; exact hP
    | 4, hq => cases hq; exact hQ
    | k + 5, hq => simp at hq
  · exact ⟨hts0 (.arrayOver (.array .int)) (by decide +kernel), hts0 (.arrayOver (.array .long)) (by decide +kernel), va_Nw.of rfl (hts0 (.methodLinkNest RX7 43 yX3_init RX7) (by decide +kernel)), va_Nw.of rfl (hts0 (.methodLinkNest RX7 50 yX1_init RX7) (by decide +kernel)), va_Nw.of rfl (hts0 (.methodLinkNest RX7 84 yX4_init RX7) (by decide +kernel))⟩
  · refine ⟨vx_Zqof (hts0 (.laysStatic Bundle.tN "UNASSIGNED_STACK" Bundle.steD) (by decide +kernel)) (hts0 (.initialized Bundle.tN) (by decide +kernel)) (flat_of_before _ hgv _ st_in.1) (fun a h1 h2 => Nat.not_le.mpr h1 h2), vx_Zqof (hts0 (.laysStatic Bundle.tN "SUPPRESSED_SENTINEL" Bundle.listD) (by decide +kernel)) (hts0 (.initialized Bundle.tN) (by decide +kernel)) (flat_of_before _ hgv _ st_in.2) (fun a h1 h2 => Nat.not_le.mpr h1 h2), fun q hq => ?_, fun w hw => va_Nw.of (tXw_on w hw) (hts0 w (tXw_in w hw)), fun q hq => va_Nc.of (flat_of_before _ hgv _ (tXn_in q hq))⟩
    have h1 := hts0 _ (tXs_in q hq)
    obtain ⟨k9, cf, i9, a, -, -, -, -, -, he⟩ := Cond.stringRef_spec (k7.2.1) h1
    exact ⟨a, vk_R.of h1 he⟩
set_option maxHeartbeats 4000000 in
set_option maxRecDepth 100000 in
theorem lw_tP {p : Program} {s : State} {m : MethodId} {meth : Method} {c : Code} {b L : Nat} {xs : Nat → Int32} (C0 : lw_At p s m meth c b L xs) : tP (fun q : Nat => s.heap.size ≤ q) s s.heap := by
  obtain ⟨hx, hb, hr, hml, hown, hts0, hXs, hbl, hlocks, hgv⟩ := C0
  have hs := flat_of_before _ hgv
  obtain ⟨t, ht, hT⟩ := va_Tof (tm := .static RX7 "PRIMES" "[J") (ty := .long) (N := 16) (f := fun j => .long (Int64.ofInt (PRn j))) (A := fun q : Nat => s.heap.size ≤ q) (args := #[Value.ref b]) (by decide) (hs _ (by decide +kernel)) (va_eqt (z := Int32.ofNat 16) (hs _ (by decide +kernel))) (fun j hj => match j, hj with
    | 0, _ => va_eqtl (z := Int64.ofInt (PRn 0)) (hs _ (by decide +kernel))
    | 1, _ => va_eqtl (z := Int64.ofInt (PRn 1)) (hs _ (by decide +kernel))
    | 2, _ => va_eqtl (z := Int64.ofInt (PRn 2)) (hs _ (by decide +kernel))
    | 3, _ => va_eqtl (z := Int64.ofInt (PRn 3)) (hs _ (by decide +kernel))
    | 4, _ => va_eqtl (z := Int64.ofInt (PRn 4)) (hs _ (by decide +kernel))
    | 5, _ => va_eqtl (z := Int64.ofInt (PRn 5)) (hs _ (by decide +kernel))
    | 6, _ => va_eqtl (z := Int64.ofInt (PRn 6)) (hs _ (by decide +kernel))
    | 7, _ => va_eqtl (z := Int64.ofInt (PRn 7)) (hs _ (by decide +kernel))
    | 8, _ => va_eqtl (z := Int64.ofInt (PRn 8)) (hs _ (by decide +kernel))
    | 9, _ => va_eqtl (z := Int64.ofInt (PRn 9)) (hs _ (by decide +kernel))
    | 10, _ => va_eqtl (z := Int64.ofInt (PRn 10)) (hs _ (by decide +kernel))
    | 11, _ => va_eqtl (z := Int64.ofInt (PRn 11)) (hs _ (by decide +kernel))
    | 12, _ => va_eqtl (z := Int64.ofInt (PRn 12)) (hs _ (by decide +kernel))
    | 13, _ => va_eqtl (z := Int64.ofInt (PRn 13)) (hs _ (by decide +kernel))
    | 14, _ => va_eqtl (z := Int64.ofInt (PRn 14)) (hs _ (by decide +kernel))
    | 15, _ => va_eqtl (z := Int64.ofInt (PRn 15)) (hs _ (by decide +kernel))
    | j + 16, h => absurd h (by omega)) (fun a h1 h2 => Nat.not_le.mpr h1 h2)
  exact ⟨t, va_Zref (hts0 (.laysStatic RX7 "PRIMES" "[J") (by decide +kernel)) (hts0 (.initialized RX7) (by decide +kernel)) ht (fun a h1 h2 => Nat.not_le.mpr h1 h2), hT, va_Nw.of tP_on (hts0 (.fieldLinkNest RX0 35 RX7 "PRIMES" "[J" RX7) (by decide +kernel))⟩
set_option maxHeartbeats 4000000 in
set_option maxRecDepth 100000 in
theorem law_start {p : Program} {e : Env} {s : State} {m : MethodId} {below : List Frame} {meth : Method} {c : Code} (l : Launch) (hl0 : l.stackTraces = false) {b L : Nat} {xs : Nat → Int32} (hL : L ≤ 2048) (C0 : lw_At p s m meth c b L xs) {SR : MI → Prop} {n : Nat} (hS : ∀ (k : Nat) (x1 x2 x3 : Int) (M : MI), k < 16 → inI x1 → inI x2 → inI x3 → SR M → ∃ M', lcK n k x1 x2 x3 M = some M' ∧ SR M') (h0 : SR M0) : W p l e room_1 s m #[Value.ref b] below meth c s.heap [] 0 0 (lw_Z below #[Value.ref b] s) (entryFrame m ([Value.ref b] : List Value).toArray 7) := by
  obtain ⟨G, hK, hk, hX⟩ := lw_world C0
  have hP := lw_tP C0
  obtain ⟨hx, hb, hr, hml, hown, hts0, hXs, hbl, hlocks, hgv⟩ := C0
  have hts : ∀ w ∈ uU, w.before #[Value.ref b] s = true := fun w h => hts0 w (uU_tbl h)
  have hown : s.vm.findClass RL = some m.cls := hown
  have hb : c.code = cL_law := hb
  obtain ⟨A, hAe⟩ : ∃ A : Nat → Prop, A = fun q : Nat => s.heap.size ≤ q := ⟨_, rfl⟩
  rw [← hAe] at hX hP
  have hY : tY A s s.heap := ⟨hX, hP⟩
  have hAh : ∀ q, A q → s.heap.size ≤ q := fun q h => by rw [hAe] at h; exact h
  have hbA : ¬ A b := fun h => Nat.not_le.mpr hbl (hAh b h)
  have hw : wH G A s.heap s [] (fun _ => eO 0 []) s.heap [] := ⟨hK, fun k q h => by simp [va_pl] at h, ⟨fun i j p q h => by simp [va_pl] at h, fun k q h => by simp [va_pl] at h⟩, va_S.rf, fun q h => by rw [hAe]; exact h⟩
  have hl := lv_entry ([.ref b]) (n := 7) (Nat.le_of_ble_eq_true rfl)
  rw [lg_entry_eq]
  generalize (lg_sl ([.ref b]) ++ List.replicate (7 - (lg_sl ([.ref b])).length) Slot.unset).toArray = ls at hl ⊢
  have hl : lv_has ls 7 [(0, .ref b)] := hl
  refine k_new (own := RL) (C := RX7) (T := TX7) (N := 15) (ci := 7) hx hb hts inX7_u tyX7 tyX7_ok hown uk_116 uk_117 uk_118 hw rfl [.null, .int 0, .null, .null, .int 0, .null, .null, .null, .null, .null, .null, .null, .null, .null, .null] (by decide +kernel) (by decide) (by decide) dL_law_0 (fun xo H hq1 hw => ?_)
  obtain ⟨L1, f1, hw, hB⟩ : ∃ L1 f1, wH G A s.heap s L1 f1 H [] ∧ kB [] (fun _ => eO 0 []) 0 L1 f1 ([] ++ [xo]) ([] ++ [eO 7 [.null, .int 0, .null, .null, .int 0, .null, .null, .null, .null, .null, .null, .null, .null, .null, .null]]) := ⟨_, _, hw, kB.start.new hq1⟩
  refine lv_dup hx hb dL_law_3 rfl ?_
  refine k_callI (As := []) (rest := [.ref xo]) ⟨hx, hb, hml, hown, hts⟩ hk hw (kc_X7_init l G _ _ _ xo hB.memL hB.getL) (k_cI 0 hts uk_119 uk_120 uk_121 uk_122 rfl rfl (by decide) (by decide) (by decide)) hl.1 rfl (lv_room (Nat.le_of_ble_eq_true rfl)) dL_law_4 (by decide) (fun u H locs hp hw => ?_)
  obtain ⟨co, r_co, fn, fm, b1, b2, b3, b4, o1, f_q1, f_q2, f_q3, f_q4, o2, d_q1, d_q2, o3, o4, s_q1, s_r_q1, s_q2, s_r_q2, s_q3, s_r_q3, s_q4, s_q5, s_q6, o5, x_q1, x_r_q1, x_q2, x_q3, x_q4, x_q5, x_q6, o6, t_q1, t_q2, t_q3, t_q4, hB2, ho2⟩ := hp
  obtain ⟨L2, f2, hw, hB⟩ : ∃ L2 f2, wH G A s.heap s L2 f2 H locs ∧ kB [] (fun _ => eO 0 []) 0 L2 f2 ([] ++ [xo] ++ ([] ++ (co :: (List.range 80).map r_co) ++ [fn] ++ [fm] ++ [b1] ++ [b2] ++ [b3] ++ [b4] ++ [o1] ++ ([] ++ [f_q1] ++ [f_q2] ++ [f_q3] ++ [f_q4]) ++ [o2] ++ ([] ++ [d_q1] ++ [d_q2]) ++ [o3] ++ ([]) ++ [o4] ++ ([] ++ (s_q1 :: (List.range 10).map s_r_q1) ++ (s_q2 :: (List.range 10).map s_r_q2) ++ (s_q3 :: (List.range 10).map s_r_q3) ++ [s_q4] ++ [s_q5] ++ [s_q6]) ++ [o5] ++ ([] ++ (x_q1 :: (List.range 10).map x_r_q1) ++ [x_q2] ++ [x_q3] ++ [x_q4] ++ [x_q5] ++ [x_q6]) ++ [o6] ++ ([] ++ [t_q1] ++ [t_q2] ++ [t_q3] ++ [t_q4]))) ([] ++ [eO 7 [.ref co, .int (nI 0), .ref fn, .ref fm, .int (nI 0), .ref b1, .ref b2, .ref b3, .ref b4, .ref o1, .ref o2, .ref o3, .ref o4, .ref o5, .ref o6]] ++ ([] ++ (eII G 80 (fun i => if i < 80 then some (r_co i) else none) :: List.replicate 80 (eI G 11 (fun _ => 0))) ++ [eI G 10 (fun _ => 0)] ++ [eI G 10 (fun _ => 0)] ++ [eJ G 11 (fun _ => 0)] ++ [eJ G 11 (fun _ => 0)] ++ [eJ G 11 (fun _ => 0)] ++ [eJ G 21 (fun _ => 0)] ++ [eO 4 [.long 2, .ref f_q1, .ref f_q2, .ref f_q3, .ref f_q4]] ++ ([] ++ [eJ G 11 (fun _ => 0)] ++ [eJ G 21 (fun _ => 0)] ++ [eJ G 11 (fun _ => 0)] ++ [eJ G 11 (fun _ => 0)]) ++ [eO 2 [.ref d_q1, .ref d_q2]] ++ ([] ++ [eJ G 11 (fun _ => 0)] ++ [eJ G 11 (fun _ => 0)]) ++ [eO 1 [.ref o1, .ref o2]] ++ ([]) ++ [eO 6 [.ref s_q1, .int (nI 0), .int (nI 0), .ref o1, .ref s_q2, .ref s_q3, .ref s_q4, .ref s_q5, .ref s_q6]] ++ ([] ++ (eJJ G 10 (fun i => if i < 10 then some (s_r_q1 i) else none) :: List.replicate 10 (eJ G 11 (fun _ => 0))) ++ (eJJ G 10 (fun i => if i < 10 then some (s_r_q2 i) else none) :: List.replicate 10 (eJ G 11 (fun _ => 0))) ++ (eJJ G 10 (fun i => if i < 10 then some (s_r_q3 i) else none) :: List.replicate 10 (eJ G 11 (fun _ => 0))) ++ [eI G 10 (fun _ => 0)] ++ [eJ G 11 (fun _ => 0)] ++ [eJ G 11 (fun _ => 0)]) ++ [eO 3 [.ref x_q1, .ref x_q2, .int (nI 0), .ref o1, .ref o2, .ref o3, .ref o4, .ref x_q3, .ref x_q4, .ref x_q5, .ref x_q6]] ++ ([] ++ (eJJ G 10 (fun i => if i < 10 then some (x_r_q1 i) else none) :: List.replicate 10 (eJ G 11 (fun _ => 0))) ++ [eI G 10 (fun _ => 0)] ++ [eJ G 11 (fun _ => 0)] ++ [eJ G 11 (fun _ => 0)] ++ [eJ G 11 (fun _ => 0)] ++ [eJ G 11 (fun _ => 0)]) ++ [eO 5 [.ref t_q1, .ref t_q2, .int (nI 0), .ref t_q3, .ref t_q4]] ++ ([] ++ [eJ G 10 (fun _ => 0)] ++ [eJ G 10 (fun _ => 0)] ++ [eJ G 64 (fun _ => 0)] ++ [eJ G 64 (fun _ => 0)]))) := ⟨_, _, hw, hB.callL hB2 ho2⟩
  refine lv_astore_n (lv' := [(1, .ref xo), (0, .ref b)]) hx hb dL_law_7 rfl hl (by decide) rfl (fun ls hl => ?_)
  refine k_new (own := RL) (C := RX8) (T := TX8) (N := 18) (ci := 8) hx hb hts inX8_u tyX8 tyX8_ok hown uk_123 uk_124 uk_125 hw rfl [.null, .null, .int 0, .int 0, .int 0, .null, .null, .null, .null, .long 0, .int 0, .int 0, .null, .null, .null, .int 0, .null, .null] (by decide +kernel) (by decide) (by decide) dL_law_8 (fun yo H hq2 hw => ?_)
  obtain ⟨L3, f3, hw, hB⟩ : ∃ L3 f3, wH G A s.heap s L3 f3 H locs ∧ kB [] (fun _ => eO 0 []) 0 L3 f3 ([] ++ [xo] ++ ([] ++ (co :: (List.range 80).map r_co) ++ [fn] ++ [fm] ++ [b1] ++ [b2] ++ [b3] ++ [b4] ++ [o1] ++ ([] ++ [f_q1] ++ [f_q2] ++ [f_q3] ++ [f_q4]) ++ [o2] ++ ([] ++ [d_q1] ++ [d_q2]) ++ [o3] ++ ([]) ++ [o4] ++ ([] ++ (s_q1 :: (List.range 10).map s_r_q1) ++ (s_q2 :: (List.range 10).map s_r_q2) ++ (s_q3 :: (List.range 10).map s_r_q3) ++ [s_q4] ++ [s_q5] ++ [s_q6]) ++ [o5] ++ ([] ++ (x_q1 :: (List.range 10).map x_r_q1) ++ [x_q2] ++ [x_q3] ++ [x_q4] ++ [x_q5] ++ [x_q6]) ++ [o6] ++ ([] ++ [t_q1] ++ [t_q2] ++ [t_q3] ++ [t_q4])) ++ [yo]) ([] ++ [eO 7 [.ref co, .int (nI 0), .ref fn, .ref fm, .int (nI 0), .ref b1, .ref b2, .ref b3, .ref b4, .ref o1, .ref o2, .ref o3, .ref o4, .ref o5, .ref o6]] ++ ([] ++ (eII G 80 (fun i => if i < 80 then some (r_co i) else none) :: List.replicate 80 (eI G 11 (fun _ => 0))) ++ [eI G 10 (fun _ => 0)] ++ [eI G 10 (fun _ => 0)] ++ [eJ G 11 (fun _ => 0)] ++ [eJ G 11 (fun _ => 0)] ++ [eJ G 11 (fun _ => 0)] ++ [eJ G 21 (fun _ => 0)] ++ [eO 4 [.long 2, .ref f_q1, .ref f_q2, .ref f_q3, .ref f_q4]] ++ ([] ++ [eJ G 11 (fun _ => 0)] ++ [eJ G 21 (fun _ => 0)] ++ [eJ G 11 (fun _ => 0)] ++ [eJ G 11 (fun _ => 0)]) ++ [eO 2 [.ref d_q1, .ref d_q2]] ++ ([] ++ [eJ G 11 (fun _ => 0)] ++ [eJ G 11 (fun _ => 0)]) ++ [eO 1 [.ref o1, .ref o2]] ++ ([]) ++ [eO 6 [.ref s_q1, .int (nI 0), .int (nI 0), .ref o1, .ref s_q2, .ref s_q3, .ref s_q4, .ref s_q5, .ref s_q6]] ++ ([] ++ (eJJ G 10 (fun i => if i < 10 then some (s_r_q1 i) else none) :: List.replicate 10 (eJ G 11 (fun _ => 0))) ++ (eJJ G 10 (fun i => if i < 10 then some (s_r_q2 i) else none) :: List.replicate 10 (eJ G 11 (fun _ => 0))) ++ (eJJ G 10 (fun i => if i < 10 then some (s_r_q3 i) else none) :: List.replicate 10 (eJ G 11 (fun _ => 0))) ++ [eI G 10 (fun _ => 0)] ++ [eJ G 11 (fun _ => 0)] ++ [eJ G 11 (fun _ => 0)]) ++ [eO 3 [.ref x_q1, .ref x_q2, .int (nI 0), .ref o1, .ref o2, .ref o3, .ref o4, .ref x_q3, .ref x_q4, .ref x_q5, .ref x_q6]] ++ ([] ++ (eJJ G 10 (fun i => if i < 10 then some (x_r_q1 i) else none) :: List.replicate 10 (eJ G 11 (fun _ => 0))) ++ [eI G 10 (fun _ => 0)] ++ [eJ G 11 (fun _ => 0)] ++ [eJ G 11 (fun _ => 0)] ++ [eJ G 11 (fun _ => 0)] ++ [eJ G 11 (fun _ => 0)]) ++ [eO 5 [.ref t_q1, .ref t_q2, .int (nI 0), .ref t_q3, .ref t_q4]] ++ ([] ++ [eJ G 10 (fun _ => 0)] ++ [eJ G 10 (fun _ => 0)] ++ [eJ G 64 (fun _ => 0)] ++ [eJ G 64 (fun _ => 0)])) ++ [eO 8 [.null, .null, .int 0, .int 0, .int 0, .null, .null, .null, .null, .long 0, .int 0, .int 0, .null, .null, .null, .int 0, .null, .null]]) := ⟨_, _, hw, hB.new hq2⟩
  refine lv_dup hx hb dL_law_11 rfl ?_
  refine k_callI (As := []) (rest := [.ref yo]) ⟨hx, hb, hml, hown, hts⟩ hk hw (kc_X8_init l G _ _ _ yo hB.memL hB.getL) (k_cI 0 hts uk_126 uk_127 uk_128 uk_129 rfl rfl (by decide) (by decide) (by decide)) hl.1 rfl (lv_room (Nat.le_of_ble_eq_true rfl)) dL_law_12 (by decide) (fun u H locs hp hw => ?_)
  obtain ⟨m_pb, m_ca, m_fn, m_mu, m_ww, m_dd, m_fo, m_ta, m_pd, m_ra, m_rb, hB2, ho2⟩ := hp
  obtain ⟨L4, f4, hw, hB⟩ : ∃ L4 f4, wH G A s.heap s L4 f4 H locs ∧ kB [] (fun _ => eO 0 []) 0 L4 f4 ([] ++ [xo] ++ ([] ++ (co :: (List.range 80).map r_co) ++ [fn] ++ [fm] ++ [b1] ++ [b2] ++ [b3] ++ [b4] ++ [o1] ++ ([] ++ [f_q1] ++ [f_q2] ++ [f_q3] ++ [f_q4]) ++ [o2] ++ ([] ++ [d_q1] ++ [d_q2]) ++ [o3] ++ ([]) ++ [o4] ++ ([] ++ (s_q1 :: (List.range 10).map s_r_q1) ++ (s_q2 :: (List.range 10).map s_r_q2) ++ (s_q3 :: (List.range 10).map s_r_q3) ++ [s_q4] ++ [s_q5] ++ [s_q6]) ++ [o5] ++ ([] ++ (x_q1 :: (List.range 10).map x_r_q1) ++ [x_q2] ++ [x_q3] ++ [x_q4] ++ [x_q5] ++ [x_q6]) ++ [o6] ++ ([] ++ [t_q1] ++ [t_q2] ++ [t_q3] ++ [t_q4])) ++ [yo] ++ ([] ++ [m_pb] ++ [m_ca] ++ [m_fn] ++ [m_mu] ++ [m_ww] ++ [m_dd] ++ [m_fo] ++ [m_ta] ++ [m_pd] ++ [m_ra] ++ [m_rb])) ([] ++ [eO 7 [.ref co, .int (nI 0), .ref fn, .ref fm, .int (nI 0), .ref b1, .ref b2, .ref b3, .ref b4, .ref o1, .ref o2, .ref o3, .ref o4, .ref o5, .ref o6]] ++ ([] ++ (eII G 80 (fun i => if i < 80 then some (r_co i) else none) :: List.replicate 80 (eI G 11 (fun _ => 0))) ++ [eI G 10 (fun _ => 0)] ++ [eI G 10 (fun _ => 0)] ++ [eJ G 11 (fun _ => 0)] ++ [eJ G 11 (fun _ => 0)] ++ [eJ G 11 (fun _ => 0)] ++ [eJ G 21 (fun _ => 0)] ++ [eO 4 [.long 2, .ref f_q1, .ref f_q2, .ref f_q3, .ref f_q4]] ++ ([] ++ [eJ G 11 (fun _ => 0)] ++ [eJ G 21 (fun _ => 0)] ++ [eJ G 11 (fun _ => 0)] ++ [eJ G 11 (fun _ => 0)]) ++ [eO 2 [.ref d_q1, .ref d_q2]] ++ ([] ++ [eJ G 11 (fun _ => 0)] ++ [eJ G 11 (fun _ => 0)]) ++ [eO 1 [.ref o1, .ref o2]] ++ ([]) ++ [eO 6 [.ref s_q1, .int (nI 0), .int (nI 0), .ref o1, .ref s_q2, .ref s_q3, .ref s_q4, .ref s_q5, .ref s_q6]] ++ ([] ++ (eJJ G 10 (fun i => if i < 10 then some (s_r_q1 i) else none) :: List.replicate 10 (eJ G 11 (fun _ => 0))) ++ (eJJ G 10 (fun i => if i < 10 then some (s_r_q2 i) else none) :: List.replicate 10 (eJ G 11 (fun _ => 0))) ++ (eJJ G 10 (fun i => if i < 10 then some (s_r_q3 i) else none) :: List.replicate 10 (eJ G 11 (fun _ => 0))) ++ [eI G 10 (fun _ => 0)] ++ [eJ G 11 (fun _ => 0)] ++ [eJ G 11 (fun _ => 0)]) ++ [eO 3 [.ref x_q1, .ref x_q2, .int (nI 0), .ref o1, .ref o2, .ref o3, .ref o4, .ref x_q3, .ref x_q4, .ref x_q5, .ref x_q6]] ++ ([] ++ (eJJ G 10 (fun i => if i < 10 then some (x_r_q1 i) else none) :: List.replicate 10 (eJ G 11 (fun _ => 0))) ++ [eI G 10 (fun _ => 0)] ++ [eJ G 11 (fun _ => 0)] ++ [eJ G 11 (fun _ => 0)] ++ [eJ G 11 (fun _ => 0)] ++ [eJ G 11 (fun _ => 0)]) ++ [eO 5 [.ref t_q1, .ref t_q2, .int (nI 0), .ref t_q3, .ref t_q4]] ++ ([] ++ [eJ G 10 (fun _ => 0)] ++ [eJ G 10 (fun _ => 0)] ++ [eJ G 64 (fun _ => 0)] ++ [eJ G 64 (fun _ => 0)])) ++ [eO 8 [.ref m_pb, .ref m_ca, .int 0, .int 0, .int 0, .ref m_fn, .ref m_mu, .ref m_ww, .ref m_dd, .long 0, .int 0, .int 0, .ref m_fo, .ref m_ta, .ref m_pd, .int 0, .ref m_ra, .ref m_rb]] ++ ([] ++ [eI G 20 (upd (upd (upd (upd (upd (upd (upd (upd (upd (upd (upd (upd (upd (upd (upd (upd (upd (upd (upd (upd (fun _ => 0) 0 (nI 11)) 1 (nI 39)) 2 (nI 41)) 3 (nI 63)) 4 (nI 101)) 5 (nI 123)) 6 (nI 137)) 7 (nI 143)) 8 (nI 153)) 9 (nI 233)) 10 (nI 293)) 11 (nI 303)) 12 (nI 327)) 13 (nI 383)) 14 (nI 389)) 15 (nI 401)) 16 (nI 411)) 17 (nI 423)) 18 (nI 429)) 19 (nI 471))] ++ [eI G 880 (fun _ => 0)] ++ [eI G 10 (fun _ => 0)] ++ [eI G 10 (fun _ => 0)] ++ [eJ G 1440 (fun _ => 0)] ++ [eI G 60 (fun _ => 0)] ++ [eI G 10 (fun _ => 0)] ++ [eZ G 12 (fun _ => 0)] ++ [eI G 12 (fun _ => 0)] ++ [eI G 12 (fun _ => 0)] ++ [eI G 12 (fun _ => 0)])) := ⟨_, _, hw, hB.callL hB2 ho2⟩
  refine lv_astore_n (lv' := [(2, .ref yo), (1, .ref xo), (0, .ref b)]) hx hb dL_law_15 rfl hl (by decide) rfl (fun ls hl => ?_)
  refine lv_iconst (v := nI 1) hx hb dL_law_16 (by decide) ?_
  refine k_newJ hx hb hts uk_5 hw 1 (by decide) (by decide) (by decide) dL_law_17 (fun ou H hq3 hw => ?_)
  obtain ⟨adr, hi, ex, ey, eo, hw⟩ := world_of hw (hB.new hq3)
  refine lv_astore_n (lv' := [(3, .ref ou), (2, .ref yo), (1, .ref xo), (0, .ref b)]) hx hb dL_law_19 rfl hl (by decide) rfl (fun ls hl => ?_)
  refine lv_iconst (v := Int32.ofInt 0) hx hb dL_law_20 rfl ?_
  refine lv_istore (lv' := [(4, .int (Int32.ofInt 0)), (3, .ref ou), (2, .ref yo), (1, .ref xo), (0, .ref b)]) hx hb dL_law_21 hl (by decide) rfl (fun ls hl => ?_)
  rw [← ex, ← ey, ← eo] at hl
  exact law_loop hl0 hx hb hr hml hown hts hlocks hXs hbl hbA hAh hL hY hi hS 512 0 _ _ M0 ls H locs (by decide) (by decide) (by omega) (by decide) (by decide) h0 hl hw
