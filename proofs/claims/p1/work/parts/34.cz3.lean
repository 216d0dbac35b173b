theorem u_157 : Cond.fieldLink RX7 38 "LiftFactors" "product" "[J" ∈ uU := uU_in (by decide +kernel) (by decide +kernel)
theorem u_158 : Cond.methodLink RX7 116 yX7_multiply ∈ uU := uU_in (by decide +kernel) (by decide +kernel)
theorem u_159 : Cond.instanceMethod yX7_multiply ∈ uU := uU_in (by decide +kernel) (by decide +kernel)
theorem u_160 : Cond.selects yX7_multiply.cls yX7_multiply yX7_multiply ∈ uU := uU_in (by decide +kernel) (by decide +kernel)
theorem u_161 : Cond.initialized yX7_multiply.cls ∈ uU := uU_in (by decide +kernel) (by decide +kernel)
theorem u_162 : Cond.code yX7_multiply cX7_multiply 5 none ∈ uU := uU_in (by decide +kernel) (by decide +kernel)
theorem u_163 : Cond.methodLink RX7 227 yJ9_floorMod_f86c9 ∈ uU := uU_in (by decide +kernel) (by decide +kernel)
theorem u_164 : Cond.static yJ9_floorMod_f86c9 ∈ uU := uU_in (by decide +kernel) (by decide +kernel)
theorem u_165 : Cond.initialized yJ9_floorMod_f86c9.cls ∈ uU := uU_in (by decide +kernel) (by decide +kernel)
theorem u_166 : Cond.code yJ9_floorMod_f86c9 cJ9_floorMod_f86c9 6 (some .long) ∈ uU := uU_in (by decide +kernel) (by decide +kernel)
theorem u_167 : Cond.constant RX7 218 (1000000) ∈ uU := uU_in (by decide +kernel) (by decide +kernel)
theorem u_168 : Cond.methodLink RX7 221 yJ9_floorMod_7cf53 ∈ uU := uU_in (by decide +kernel) (by decide +kernel)
theorem u_169 : Cond.static yJ9_floorMod_7cf53 ∈ uU := uU_in (by decide +kernel) (by decide +kernel)
theorem u_170 : Cond.initialized yJ9_floorMod_7cf53.cls ∈ uU := uU_in (by decide +kernel) (by decide +kernel)
theorem u_171 : Cond.code yJ9_floorMod_7cf53 cJ9_floorMod_7cf53 3 (some .int) ∈ uU := uU_in (by decide +kernel) (by decide +kernel)
theorem prL_z (r : Nat → Int64) {n k : Nat} (h : k < n) : prL (fun _ => 0) r n k = 0 := if_pos h
theorem upd_z (r : Nat → Int64) {n k : Nat} (h : k < n) : vp_updL (prL (fun _ => 0) r n) k 0 = prL (fun _ => 0) r n := by
  funext j
  by_cases e : j = k
  · subst e; simp [vp_updL, prL, h]
  · simp [vp_updL, e]
theorem z_ma : (0 : Int64) + (0 : Int32).toInt64 * (0 : Int32).toInt64 = 0 := by decide
set_option maxRecDepth 100000 in
set_option maxHeartbeats 4000000 in
theorem lp_X7_mul_in {p : Program} {l : Launch} {e : Env} {R : Room} {s : State} {m : MethodId} {args : Array Value} {below : List Frame} {meth : Method} {c : Code} {cells slots : Nat} {Q : State → Prop} {G : gG} {A : Nat → Prop} {H0 : Heap} {L : List Nat} (hx : p.tables.exec = Jvm.exec) (hb : c.code = cX7_multiply) (hown : s.vm.findClass RX7 = some m.cls) (hts : ∀ w ∈ uU, w.before args s = true) {f : Nat → va_E} {x a b d : Nat} {fs : List Value} {r : Nat → Int64} (hxL : x ∈ L) (hxo : f x = eO 7 fs) (hfs8 : fs[8]? = some (.ref d)) (haL : a ∈ L) (ha : f a = eI G 11 (fun _ => 0)) (hbL : b ∈ L) (hbb : f b = eI G 11 (fun _ => 0)) (hdL : d ∈ L) (hdd : f d = eJ G 21 r) {i : Nat} (hi : i < 11) (kk : ∀ H locs ls, wH G A H0 s L (va_up f d (eJ G 21 (prL (fun _ => 0) r 21))) H locs → lv_has ls 5 [(3, .int (nI i)), (0, .ref x), (1, .ref a), (2, .ref b)] → W p l e R s m args below meth c H locs cells slots Q (F0 m 54 ls [])) :
    ∀ (e9 j : Nat) (H : Heap) (locs : List Loc) (ls : Array Slot), j ≤ 11 → 11 + 1 ≤ j + e9 → wH G A H0 s L (va_up f d (eJ G 21 (prL (fun _ => 0) r 21))) H locs → lv_has ls 5 [(4, .int (nI j)), (3, .int (nI i)), (0, .ref x), (1, .ref a), (2, .ref b)] → W p l e R s m args below meth c H locs cells slots Q (F0 m 19 ls []) := by
  have hne_x : x ≠ d := ne_E hdd hxo (by simp)
  have hne_a : a ≠ d := ne_E hdd ha (by simp)
  have hne_b : b ≠ d := ne_E hdd hbb (by simp)
  intro e9
  induction e9 with
  | zero => intro j H locs ls h1 h2; exact absurd h2 (by omega)
  | succ e9 ih =>
    intro j H locs ls hj hd9 hw hl
    refine lv_iload hx hb dX7_multiply_19 (lv_at hl 0 rfl) ?_
    refine lv_bipush (v := nI 11) hx hb dX7_multiply_21 (by decide) ?_
    refine n_icmp_ge (tgt := 54) hx hb (by omega) (by omega) dX7_multiply_23 (by decide) (fun h => ?_) (fun h => ?_)
    · skip
      exact kk H locs ls hw (lv_sub hl [1, 2, 3, 4] rfl)
    · skip
      refine lv_aload_n hx hb dX7_multiply_26 rfl (lv_at hl 2 rfl) ?_
      refine w_get (C := RX7) (T := TX7) (N := 15) (ci := 7) (ref := "LiftFactors") (v := .ref d) hx hb hts inX7_u hown hw hxL ((va_up_ne _ _ hne_x).trans hxo) rfl 8 (by decide) u_157 rfl hfs8 dX7_multiply_27 ?_
      refine lv_iload_n hx hb dX7_multiply_30 rfl (lv_at hl 1 rfl) ?_
      refine lv_iload hx hb dX7_multiply_31 (lv_at hl 0 rfl) ?_
      refine lv_iadd hx hb dX7_multiply_33 ?_
      refine w_ti (y := nI (i + j)) (nI_add _ _) ?_
      refine lv_dup2_11 hx hb dX7_multiply_34 rfl rfl ?_
      refine n_lald hx hb hw hdL (va_up_eq _ _ _) (i + j) (by omega) (by omega) dX7_multiply_35 ?_
      refine w_tl (y := 0) (prL_z r (by omega)) ?_
      refine lv_aload_n hx hb dX7_multiply_36 rfl (lv_at hl 3 rfl) ?_
      refine lv_iload_n hx hb dX7_multiply_37 rfl (lv_at hl 1 rfl) ?_
      refine n_iald hx hb hw haL ((va_up_ne _ _ hne_a).trans ha) i (by omega) (by omega) dX7_multiply_38 ?_
      refine lv_i2l (v := (((fun _ => 0)) i).toInt64) hx hb dX7_multiply_39 rfl ?_
      refine lv_aload_n hx hb dX7_multiply_40 rfl (lv_at hl 4 rfl) ?_
      refine lv_iload hx hb dX7_multiply_41 (lv_at hl 0 rfl) ?_
      refine n_iald hx hb hw hbL ((va_up_ne _ _ hne_b).trans hbb) j (by omega) (by omega) dX7_multiply_43 ?_
      refine lv_i2l (v := (((fun _ => 0)) j).toInt64) hx hb dX7_multiply_44 rfl ?_
      refine lv_lmul hx hb dX7_multiply_45 ?_
      refine lv_ladd hx hb dX7_multiply_46 ?_
      refine w_tl (y := 0) z_ma ?_
      refine n_last hx hb hw hdL (va_up_eq _ _ _) (i + j) (by omega) (by omega) dX7_multiply_47 (fun H locs hw => ?_)
      rw [va_uu, upd_z r (by omega)] at hw
      refine lv_iinc (v := nI (j + 1)) (lv' := [(4, .int (nI (j + 1))), (3, .int (nI i)), (0, .ref x), (1, .ref a), (2, .ref b)]) hx hb dX7_multiply_48 hl (k := 0) rfl (w_inc _) (by decide) rfl (fun ls hl => ?_)
      refine lv_goto (tgt := 19) hx hb dX7_multiply_51 (by decide) ?_
      exact ih (j + 1) H locs ls (by omega) (by omega) hw (lv_sub hl [0, 1, 2, 3, 4] rfl)
set_option maxRecDepth 100000 in
set_option maxHeartbeats 4000000 in
theorem lp_X7_mul_out {p : Program} {l : Launch} {e : Env} {R : Room} {s : State} {m : MethodId} {args : Array Value} {below : List Frame} {meth : Method} {c : Code} {cells slots : Nat} {Q : State → Prop} {G : gG} {A : Nat → Prop} {H0 : Heap} {L : List Nat} (hx : p.tables.exec = Jvm.exec) (hb : c.code = cX7_multiply) (hown : s.vm.findClass RX7 = some m.cls) (hts : ∀ w ∈ uU, w.before args s = true) {f : Nat → va_E} {x a b d : Nat} {fs : List Value} {r : Nat → Int64} (hxL : x ∈ L) (hxo : f x = eO 7 fs) (hfs8 : fs[8]? = some (.ref d)) (haL : a ∈ L) (ha : f a = eI G 11 (fun _ => 0)) (hbL : b ∈ L) (hbb : f b = eI G 11 (fun _ => 0)) (hdL : d ∈ L) (hdd : f d = eJ G 21 r) (kk : ∀ H locs ls, wH G A H0 s L (va_up f d (eJ G 21 (prL (fun _ => 0) r 21))) H locs → ls.size = 5 → W p l e R s m args below meth c H locs cells slots Q (F0 m 60 ls [])) :
    ∀ (e9 i : Nat) (H : Heap) (locs : List Loc) (ls : Array Slot), i ≤ 11 → 11 + 1 ≤ i + e9 → wH G A H0 s L (va_up f d (eJ G 21 (prL (fun _ => 0) r 21))) H locs → lv_has ls 5 [(3, .int (nI i)), (0, .ref x), (1, .ref a), (2, .ref b)] → W p l e R s m args below meth c H locs cells slots Q (F0 m 10 ls []) := by
  intro e9
  induction e9 with
  | zero => intro i H locs ls h1 h2; exact absurd h2 (by omega)
  | succ e9 ih =>
    intro i H locs ls hi hd9 hw hl
    refine lv_iload_n hx hb dX7_multiply_10 rfl (lv_at hl 0 rfl) ?_
    refine lv_bipush (v := nI 11) hx hb dX7_multiply_11 (by decide) ?_
    refine n_icmp_ge (tgt := 60) hx hb (by omega) (by omega) dX7_multiply_13 (by decide) (fun h => ?_) (fun h => ?_)
    · skip
      exact kk H locs ls hw hl.1
    · skip
      refine lv_iconst (v := nI 0) hx hb dX7_multiply_16 (by decide) ?_
      refine lv_istore (lv' := [(4, .int (nI 0)), (3, .int (nI i)), (0, .ref x), (1, .ref a), (2, .ref b)]) hx hb dX7_multiply_17 hl (by decide) rfl (fun ls hl => ?_)
      refine lp_X7_mul_in hx hb hown hts hxL hxo hfs8 haL ha hbL hbb hdL hdd h (fun H locs ls hw hl => ?_) 12 0 H locs ls (by omega) (by omega) hw hl
      refine lv_iinc (v := nI (i + 1)) (lv' := [(3, .int (nI (i + 1))), (0, .ref x), (1, .ref a), (2, .ref b)]) hx hb dX7_multiply_54 hl (k := 0) rfl (w_inc _) (by decide) rfl (fun ls hl => ?_)
      refine lv_goto (tgt := 10) hx hb dX7_multiply_57 (by decide) ?_
      exact ih (i + 1) H locs ls (by omega) (by omega) hw hl
set_option maxRecDepth 100000 in
set_option maxHeartbeats 4000000 in
theorem c_X7_multiply0 (l : Launch) (G : gG) (L : List Nat) (f : Nat → va_E) (sz : Nat) (x a b d : Nat) (fs : List Value) (r : Nat → Int64) (hxL : x ∈ L) (hxo : f x = eO 7 fs) (hfs8 : fs[8]? = some (.ref d)) (haL : a ∈ L) (ha : f a = eI G 11 (fun _ => 0)) (hbL : b ∈ L) (hbb : f b = eI G 11 (fun _ => 0)) (hdL : d ∈ L) (hdd : f d = eJ G 21 r) :
    Met l yX7_multiply (uW yX7_multiply cX7_multiply 5 none) { frames := 1, cells := 0, slots := 0, locals := 24 } (wIn G [.ref x, .ref a, .ref b] L f sz) (va_Qv (fun (g : Nat → va_E) => g = va_up f d (eJ G 21 (prL (fun _ => 0) r 21))) (fun g => wAt G (wA L f sz) L g) (wA L f sz)) 0 0 (wA L f sz) := by
  refine wEnter (by decide) (Nat.le_of_ble_eq_true rfl) ?_
  intro p e s m below meth c ls cx hinit hl hsz hw
  obtain ⟨hx, hb, hr, hml, hown, hts, hlocks⟩ := id cx
  have hown : s.vm.findClass RX7 = some m.cls := hown
  have hl : lv_has ls 5 [(0, .ref x), (1, .ref a), (2, .ref b)] := hl
  generalize wA L f sz = A at hw ⊢
  refine lv_aload_n hx hb dX7_multiply_0 rfl (lv_at hl 0 rfl) ?_
  refine w_get (C := RX7) (T := TX7) (N := 15) (ci := 7) (ref := "LiftFactors") (v := .ref d) hx hb hts inX7_u hown hw hxL hxo rfl 8 (by decide) u_157 rfl hfs8 dX7_multiply_1 ?_
  refine lv_lconst (v := 0) hx hb dX7_multiply_4 (by decide) ?_
  refine w_callSv (lf := fun g => (L, g)) (As := [.ref d, .long 0]) (rest := []) cx.fix hw (c_J7_fillJ l G L f _ d 21 r 0 hdL hdd (by decide)) (w_cS 2 hts u_121 u_122 u_123 u_124 rfl rfl (by decide) (by decide)) hl.1 rfl (lv_room (Nat.le_of_ble_eq_true rfl)) dX7_multiply_5 (by decide) (fun u H locs hp hw => ?_)
  have hw : wH G A s.heap s L u H locs := hw
  rw [hp] at hw
  refine lv_iconst (v := nI 0) hx hb dX7_multiply_8 (by decide) ?_
  refine lv_istore_n (lv' := [(3, .int (nI 0)), (0, .ref x), (1, .ref a), (2, .ref b)]) hx hb dX7_multiply_9 rfl hl (by decide) rfl (fun ls hl => ?_)
  refine lp_X7_mul_out hx hb hown hts hxL hxo hfs8 haL ha hbL hbb hdL hdd (fun H locs ls hw _ => ?_) 12 0 _ _ ls (by omega) (by omega) hw hl
  exact w_vret (lf := fun g => (L, g)) hx hb hr hlocks _ hw (rfl) dX7_multiply_60
set_option maxRecDepth 100000 in
set_option maxHeartbeats 4000000 in
theorem z_X7_times (l : Launch) (hl0 : l.stackTraces = false) (G : gG) (L : List Nat) (f : Nat → va_E) (sz : Nat) (x : Nat) (own : Nat → Prop) (hz : cZ G L f x own) (v k : Int32) :
    vx_Met l yX7_times (uW yX7_times cX7_times 3 (some .int)) { frames := 8, cells := 2, slots := 12, locals := 115 } (wInX G [.ref x, .int v, .int k] L f sz) (va_Qi (fun (r9 : Int32) (g : Nat → va_E) => ((inB v 80 && inB k 80) = true ∧ r9 = nI 0) ∧ cO own f g) (fun g => wAt G (wA L f sz) L g) (wA L f sz)) (xX G (wA L f sz) L (fun E g => E = nAI ∧ (inB v 80 && inB k 80) = false ∧ cO own f g)) 2 12 (wA L f sz) := by
  refine wEnterX (by decide) (Nat.le_of_ble_eq_true rfl) ?_
  intro p e s m below meth c ls cx hnt hl hsz hw hX
  obtain ⟨hx, hb, hr, hml, hown, hts, hlocks⟩ := id cx
  have hown : s.vm.findClass RX7 = some m.cls := hown
  have hl : lv_has ls 3 [(0, .ref x), (1, .int v), (2, .int k)] := hl
  generalize wA L f sz = A at hw hX ⊢
  obtain ⟨fs, fs6, fs3, co, b1, b2, b3, b4, o3, o6, cr0, cr, r1, r2, r3, r4, hxL, hxo, hfl, hfs0, hfs1, hfs4, hfs5, hfs6, hfs7, hfs8, hfs11, hfs14, hcoL, hco, hcr, hcrL, hcv, h1L, hb1, h2L, hb2, h3L, hb3, h4L, hb4, n12, n13, n23, ho3L, ho3, ho6L, ho6, hfl6, ow_x, ow_b1, ow_b2, ow_b3, ow_b4, ow_o6, ow_cr⟩ := hz
  have n_x_b1 : x ≠ b1 := ne_E hb1 hxo (by simp)
  have n_x_b2 : x ≠ b2 := ne_E hb2 hxo (by simp)
  have n_x_b3 : x ≠ b3 := ne_E hb3 hxo (by simp)
  have n_x_b4 : x ≠ b4 := ne_E hb4 hxo (by simp)
  have n_x_co : x ≠ co := ne_E hco hxo (by simp)
  have n_x_o3 : x ≠ o3 := ne_E ho3 hxo (by simp)
  have n_x_o6 : x ≠ o6 := ne_E ho6 hxo (by simp)
  have n_b1_x : b1 ≠ x := ne_E hxo hb1 (by simp)
  have n_b1_b2 : b1 ≠ b2 := n12
  have n_b1_b3 : b1 ≠ b3 := n13
  have n_b1_b4 : b1 ≠ b4 := ne_E hb4 hb1 (by simp)
  have n_b1_co : b1 ≠ co := ne_E hco hb1 (by simp)
  have n_b1_o3 : b1 ≠ o3 := ne_E ho3 hb1 (by simp)
  have n_b1_o6 : b1 ≠ o6 := ne_E ho6 hb1 (by simp)
  have n_b2_x : b2 ≠ x := ne_E hxo hb2 (by simp)
  have n_b2_b1 : b2 ≠ b1 := (n12).symm
  have n_b2_b3 : b2 ≠ b3 := n23
  have n_b2_b4 : b2 ≠ b4 := ne_E hb4 hb2 (by simp)
  have n_b2_co : b2 ≠ co := ne_E hco hb2 (by simp)
  have n_b2_o3 : b2 ≠ o3 := ne_E ho3 hb2 (by simp)
  have n_b2_o6 : b2 ≠ o6 := ne_E ho6 hb2 (by simp)
  have n_b3_x : b3 ≠ x := ne_E hxo hb3 (by simp)
  have n_b3_b1 : b3 ≠ b1 := (n13).symm
  have n_b3_b2 : b3 ≠ b2 := (n23).symm
  have n_b3_b4 : b3 ≠ b4 := ne_E hb4 hb3 (by simp)
  have n_b3_co : b3 ≠ co := ne_E hco hb3 (by simp)
  have n_b3_o3 : b3 ≠ o3 := ne_E ho3 hb3 (by simp)
  have n_b3_o6 : b3 ≠ o6 := ne_E ho6 hb3 (by simp)
  have n_b4_x : b4 ≠ x := ne_E hxo hb4 (by simp)
  have n_b4_b1 : b4 ≠ b1 := ne_E hb1 hb4 (by simp)
  have n_b4_b2 : b4 ≠ b2 := ne_E hb2 hb4 (by simp)
  have n_b4_b3 : b4 ≠ b3 := ne_E hb3 hb4 (by simp)
  have n_b4_co : b4 ≠ co := ne_E hco hb4 (by simp)
  have n_b4_o3 : b4 ≠ o3 := ne_E ho3 hb4 (by simp)
  have n_b4_o6 : b4 ≠ o6 := ne_E ho6 hb4 (by simp)
  have n_co_x : co ≠ x := ne_E hxo hco (by simp)
  have n_co_b1 : co ≠ b1 := ne_E hb1 hco (by simp)
  have n_co_b2 : co ≠ b2 := ne_E hb2 hco (by simp)
  have n_co_b3 : co ≠ b3 := ne_E hb3 hco (by simp)
  have n_co_b4 : co ≠ b4 := ne_E hb4 hco (by simp)
  have n_co_o3 : co ≠ o3 := ne_E ho3 hco (by simp)
  have n_co_o6 : co ≠ o6 := ne_E ho6 hco (by simp)
  have n_o3_x : o3 ≠ x := ne_E hxo ho3 (by simp)
  have n_o3_b1 : o3 ≠ b1 := ne_E hb1 ho3 (by simp)
  have n_o3_b2 : o3 ≠ b2 := ne_E hb2 ho3 (by simp)
  have n_o3_b3 : o3 ≠ b3 := ne_E hb3 ho3 (by simp)
  have n_o3_b4 : o3 ≠ b4 := ne_E hb4 ho3 (by simp)
  have n_o3_co : o3 ≠ co := ne_E hco ho3 (by simp)
  have n_o3_o6 : o3 ≠ o6 := ne_E ho6 ho3 (by simp)
  have n_o6_x : o6 ≠ x := ne_E hxo ho6 (by simp)
  have n_o6_b1 : o6 ≠ b1 := ne_E hb1 ho6 (by simp)
  have n_o6_b2 : o6 ≠ b2 := ne_E hb2 ho6 (by simp)
  have n_o6_b3 : o6 ≠ b3 := ne_E hb3 ho6 (by simp)
  have n_o6_b4 : o6 ≠ b4 := ne_E hb4 ho6 (by simp)
  have n_o6_co : o6 ≠ co := ne_E hco ho6 (by simp)
  have n_o6_o3 : o6 ≠ o3 := ne_E ho3 ho6 (by simp)
  have ho0 : ∀ q : Nat, ¬ own q → f q = f q := fun q _ => rfl
  have hncr_x : ∀ j, j < 80 → cr j ≠ x := fun j hj => ne_E hxo (hcv j hj) (by simp)
  have hncr_b1 : ∀ j, j < 80 → cr j ≠ b1 := fun j hj => ne_E hb1 (hcv j hj) (by simp)
  have hncr_b2 : ∀ j, j < 80 → cr j ≠ b2 := fun j hj => ne_E hb2 (hcv j hj) (by simp)
  have hncr_b3 : ∀ j, j < 80 → cr j ≠ b3 := fun j hj => ne_E hb3 (hcv j hj) (by simp)
  have hncr_b4 : ∀ j, j < 80 → cr j ≠ b4 := fun j hj => ne_E hb4 (hcv j hj) (by simp)
  have hncr_o6 : ∀ j, j < 80 → cr j ≠ o6 := fun j hj => ne_E ho6 (hcv j hj) (by simp)
  refine lv_iload_n hx hb dX7_times_0 rfl (lv_at hl 1 rfl) ?_
  refine x_callSv (As := [.int v]) (rest := []) cx.fix hX hw (x_X7_requirePolynomial l hl0 G L f _ v) (w_cS 1 hts u_98 u_99 u_100 u_101 rfl rfl (by decide) (by decide)) hl.1 rfl (lv_room (Nat.le_of_ble_eq_true rfl)) dX7_times_1 (by decide) (fun E ce q9 u H locs hpe hw hce hcv hcl => ?_) (fun u H locs hp hw => ?_)
  · obtain ⟨hE, hno, e10⟩ := hpe
    rw [e10] at hw
    exact x_out hnt hlocks hw (⟨hE, by rw [hno]; rfl, ho0⟩) hce hcv hcl (by decide) (by decide)
  obtain ⟨hinj, e10⟩ := hp
  rw [e10] at hw
  obtain ⟨j, hj, ejj⟩ := inB_of (by decide) hinj
  subst ejj
  refine lv_iload_n hx hb dX7_times_4 rfl (lv_at hl 2 rfl) ?_
  refine x_callSv (As := [.int k]) (rest := []) cx.fix hX hw (x_X7_requirePolynomial l hl0 G L f _ k) (w_cS 1 hts u_98 u_99 u_100 u_101 rfl rfl (by decide) (by decide)) hl.1 rfl (lv_room (Nat.le_of_ble_eq_true rfl)) dX7_times_5 (by decide) (fun E ce q9 u H locs hpe hw hce hcv hcl => ?_) (fun u H locs hp hw => ?_)
  · obtain ⟨hE, hno, e10⟩ := hpe
    rw [e10] at hw
    exact x_out hnt hlocks hw (⟨hE, by rw [hno, Bool.and_false], ho0⟩) hce hcv hcl (by decide) (by decide)
  obtain ⟨hink2, e10⟩ := hp
  rw [e10] at hw
  obtain ⟨k2, hk2, ejk2⟩ := inB_of (by decide) hink2
  subst ejk2
  refine lv_aload_n hx hb dX7_times_8 rfl (lv_at hl 0 rfl) ?_
  refine w_callVv (lf := fun g => (L, g)) (As := []) (rest := []) cx.fix hw (c_X7_requireNumber0 l G L f _ x fs hxL hxo hfs1) hxL hxo rfl rfl (w_cV 0 hts u_115 u_116 u_117 u_118 u_119 rfl rfl (by decide) (by decide)) hl.1 rfl (lv_room (Nat.le_of_ble_eq_true rfl)) dX7_times_9 (by decide) (fun u H locs hp hw => ?_)
  have hw : wH G A s.heap s L u H locs := hw
  rw [hp] at hw
  have hboth : (inB (nI j) 80 && inB (nI k2) 80) = true := by rw [hinj, hink2]; rfl
  refine lv_aload_n hx hb dX7_times_12 rfl (lv_at hl 0 rfl) ?_
  refine lv_aload_n hx hb dX7_times_13 rfl (lv_at hl 0 rfl) ?_
  refine w_get (C := RX7) (T := TX7) (N := 15) (ci := 7) (ref := "LiftFactors") (v := .ref co) hx hb hts inX7_u hown hw hxL hxo rfl 0 (by decide) u_0 rfl hfs0 dX7_times_14 ?_
  refine lv_iload_n hx hb dX7_times_17 rfl (lv_at hl 1 rfl) ?_
  refine n_aald hx hb hw hcoL (Or.inl hco) j (by omega) (by omega) (hcr _ (by omega)) dX7_times_18 ?_
  refine lv_aload_n hx hb dX7_times_19 rfl (lv_at hl 0 rfl) ?_
  refine w_get (C := RX7) (T := TX7) (N := 15) (ci := 7) (ref := "LiftFactors") (v := .ref co) hx hb hts inX7_u hown hw hxL hxo rfl 0 (by decide) u_0 rfl hfs0 dX7_times_20 ?_
  refine lv_iload_n hx hb dX7_times_23 rfl (lv_at hl 2 rfl) ?_
  refine n_aald hx hb hw hcoL (Or.inl hco) k2 (by omega) (by omega) (hcr _ (by omega)) dX7_times_24 ?_
  refine w_callVv (lf := fun g => (L, g)) (As := [.ref (cr j), .ref (cr k2)]) (rest := []) cx.fix hw (c_X7_multiply0 l G L f _ x (cr j) (cr k2) b4 fs r4 hxL hxo hfs8 (hcrL _ hj) (hcv _ hj) (hcrL _ hk2) (hcv _ hk2) h4L hb4) hxL hxo rfl rfl (w_cV 2 hts u_158 u_159 u_160 u_161 u_162 rfl rfl (by decide) (by decide)) hl.1 rfl (lv_room (Nat.le_of_ble_eq_true rfl)) dX7_times_25 (by decide) (fun u H locs hp hw => ?_)
  have hw : wH G A s.heap s L u H locs := hw
  rw [hp] at hw
  obtain ⟨f1, hf1⟩ : ∃ g, g = va_up f b4 (eJ G 21 (prL (fun _ => 0) r4 21)) := ⟨_, rfl⟩
  rw [← hf1] at hw
  have h1_x : f1 x = eO 7 fs := by rw [hf1, va_up_ne _ _ n_x_b4]; exact hxo
  have h1_b1 : f1 b1 = eJ G 11 r1 := by rw [hf1, va_up_ne _ _ n_b1_b4]; exact hb1
  have h1_b2 : f1 b2 = eJ G 11 r2 := by rw [hf1, va_up_ne _ _ n_b2_b4]; exact hb2
  have h1_b3 : f1 b3 = eJ G 11 r3 := by rw [hf1, va_up_ne _ _ n_b3_b4]; exact hb3
  have h1_b4 : f1 b4 = eJ G 21 (prL (fun _ => 0) r4 21) := by rw [hf1]; exact va_up_eq _ _ _
  have h1_co : f1 co = eII G 80 cr0 := by rw [hf1, va_up_ne _ _ n_co_b4]; exact hco
  have h1_o3 : f1 o3 = eO 1 fs3 := by rw [hf1, va_up_ne _ _ n_o3_b4]; exact ho3
  have h1_o6 : f1 o6 = eO 5 fs6 := by rw [hf1, va_up_ne _ _ n_o6_b4]; exact ho6
  have hcv1 : ∀ j, j < 80 → f1 (cr j) = eI G 11 (fun _ => 0) := fun j hj => by rw [hf1, va_up_ne _ _ (hncr_b4 j hj)]; exact hcv j hj
  have ho1 : ∀ q : Nat, ¬ own q → f1 q = f q := fun q hq => (show f1 q = f q from by rw [hf1]; exact va_up_ne _ _ (fun h9 => hq (by rw [h9]; exact ow_b4))).trans (ho0 q hq)
  refine lv_aload_n hx hb dX7_times_28 rfl (lv_at hl 0 rfl) ?_
  refine w_get (C := RX7) (T := TX7) (N := 15) (ci := 7) (ref := "LiftFactors") (v := .ref b4) hx hb hts inX7_u hown hw hxL h1_x rfl 8 (by decide) u_157 rfl hfs8 dX7_times_29 ?_
  refine w_callSi (lf := fun g => (L, g)) (As := [.ref b4]) (rest := []) cx.fix hw (c_X7_isTooGreat l G L f1 _ b4 21 (prL (fun _ => 0) r4 21) h4L h1_b4 (by decide)) (w_cS 1 hts u_149 u_150 u_151 u_152 rfl rfl (by decide) (by decide)) hl.1 rfl (lv_room (Nat.le_of_ble_eq_true rfl)) dX7_times_32 (by decide) (fun r9 u H locs hp hw => ?_)
  obtain ⟨h9, e10⟩ := hp
  have hw : wH G A s.heap s L u H locs := hw
  rw [e10] at hw
  have e9 : r9 = nI 0 := by
    rcases h9 with ⟨-, k, hk, hk3⟩ | ⟨e9, -⟩
    · refine absurd ?_ hk3
      rw [prL_z r4 hk]
      unfold okC bndC
      by_cases h10 : k ≤ 10
      · rw [if_pos h10]; decide
      · rw [if_neg h10]; decide
    · exact e9
  subst e9
  refine lv_if_eq (tgt := 48) hx hb dX7_times_35 (by decide) (fun _ => ?_) (fun h => absurd (by decide) h)
  refine lv_aload_n hx hb dX7_times_48 rfl (lv_at hl 0 rfl) ?_
  refine lv_aload_n hx hb dX7_times_49 rfl (lv_at hl 0 rfl) ?_
  refine w_get (C := RX7) (T := TX7) (N := 15) (ci := 7) (ref := "LiftFactors") (v := .ref b4) hx hb hts inX7_u hown hw hxL h1_x rfl 8 (by decide) u_157 rfl hfs8 dX7_times_50 ?_
  refine w_callVi (lf := fun g => (L, g)) (As := [.ref b4]) (rest := []) cx.fix hw (c_X7_keep l G L f1 _ x b4 co 0 21 fs cr0 cr (fun _ _ => 0 : Nat → Nat → Int32) (prL (fun _ => 0) r4 21) hxL h1_x hfl hfs0 hfs1 h1_co hcoL hcr hcrL hcv1 h4L h1_b4 (by decide) (by decide) (by decide)) hxL h1_x rfl rfl (w_cV 1 hts u_125 u_126 u_127 u_128 u_129 rfl rfl (by decide) (by decide)) hl.1 rfl (lv_room (Nat.le_of_ble_eq_true rfl)) dX7_times_53 (by decide) (fun r9 u H locs hp hw => ?_)
  obtain ⟨e9, e10⟩ := hp
  have hw : wH G A s.heap s L u H locs := hw
  rw [e10] at hw
  subst e9
  refine vx_ret ?_
  refine W.widen (k := 2) (n := 12) (by decide) (by decide) ?_
  exact w_iret (lf := fun g => (L, g)) hx hb hr hlocks _ hw (⟨⟨hboth, rfl⟩, fun q hq => ((va_up_ne _ _ (fun h9 => hq (by rw [h9]; exact ow_x))).trans (va_up_ne _ _ (fun h9 => hq (by rw [h9]; exact ow_cr 0 (by decide))))).trans (ho1 q hq)⟩) dX7_times_56
set_option maxHeartbeats 1000000 in
theorem wEnterF {l : Launch} {y : MethodName} {rm : Room} {G : gG} {av : List Value} {L : List Nat} {f : Nat → va_E} {sz : Nat} {Qc : Array Value → State → Outcome → State → Prop} {mc ms : Nat} {cc : ByteArray} {n : Nat} {ret : Option FieldType}
    (hy : plainFor y = true) (hn : (lg_sl av).length ≤ n)
    (body : ∀ (p : Program) (e : Env) (s : State) (m : MethodId) (below : List Frame) (meth : Method) (c : Code) (ls : Array Slot), cX p s m av.toArray meth c cc ret n y.cls → (y.name = "<init>" → meth.name = "<init>") → lv_has ls n (lv_args 0 av) → s.heap.size = sz → wH G (wA L f sz) s.heap s L f s.heap [] →
      W p l e rm s m av.toArray below meth c s.heap [] 0 0 (MQ below Qc av.toArray s mc ms (wA L f sz)) (F0 m 0 ls [])) :
    Met l y (uW y cc n ret) rm (wIn G av L f sz) Qc mc ms (wA L f sz) := by
  refine va_MetF (cc := cc) (maxL := n) (ret := ret) hy rfl ?_
  intro p e s m args below meth c s₁ B hml hv
  obtain ⟨rfl, hsz, hP, hK, hD0⟩ := hv
  have hts := atoms_spec (ws := uW y cc n ret) B.pre
  have hown : s.vm.findClass y.cls = some m.cls := findClass_of_methodNamed B.named
  have hl := lv_entry av (n := n) hn
  rw [lg_entry_eq]
  have hin : meth.name = y.name := (name_of_methodNamed B.named B.method).1
  exact body p e s m below meth c _ ⟨B.exec, B.bytes, B.returns, hml, hown, fun w h => hts w (List.mem_cons_of_mem _ h), B.notSynchronized⟩ (fun h => hin.trans h) hl hsz ⟨hK, hP, hD0.self, va_S.rf, fun q h => Or.inr (by rw [← hsz]; exact h)⟩
set_option maxRecDepth 100000 in
set_option maxHeartbeats 4000000 in
theorem c_J9_floorModI (l : Launch) (G : gG) (L : List Nat) (f : Nat → va_E) (sz : Nat) (a b : Int32) (hb0 : ¬ b = 0) :
    Met l yJ9_floorMod_7cf53 (uW yJ9_floorMod_7cf53 cJ9_floorMod_7cf53 3 (some .int)) { frames := 0, cells := 0, slots := 0, locals := 0 } (wIn G [.int a, .int b] L f sz) (va_Qi (fun (r9 : Int32) (g : Nat → va_E) => g = f) (fun g => wAt G (wA L f sz) L g) (wA L f sz)) 0 0 (wA L f sz) := by
  refine wEnterF (by decide +kernel) (Nat.le_of_ble_eq_true rfl) ?_
  intro p e s m below meth c ls cx hinit hl hsz hw
  obtain ⟨hx, hb, hr, hml, hown, hts, hlocks⟩ := id cx
  have hown : s.vm.findClass RJ9 = some m.cls := hown
  have hl : lv_has ls 3 [(0, .int a), (1, .int b)] := hl
  generalize wA L f sz = A at hw ⊢
  refine lv_iload_n hx hb dJ9_floorMod_7cf53_0 rfl (lv_at hl 0 rfl) ?_
  refine lv_iload_n hx hb dJ9_floorMod_7cf53_1 rfl (lv_at hl 1 rfl) ?_
  refine lv_irem hx hb dJ9_floorMod_7cf53_2 hb0 ?_
  refine lv_istore_n (lv' := [(2, .int (a - a / b * b)), (0, .int a), (1, .int b)]) hx hb dJ9_floorMod_7cf53_3 rfl hl (by decide) rfl (fun ls hl => ?_)
  refine lv_iload_n hx hb dJ9_floorMod_7cf53_4 rfl (lv_at hl 1 rfl) ?_
  refine lv_iload_n hx hb dJ9_floorMod_7cf53_5 rfl (lv_at hl 2 rfl) ?_
  refine lv_ixor hx hb dJ9_floorMod_7cf53_6 ?_
  refine lv_if_ge (tgt := 18) hx hb dJ9_floorMod_7cf53_7 (by decide) (fun h => ?_) (fun h => ?_)
  · skip
    refine lv_iload_n hx hb dJ9_floorMod_7cf53_18 rfl (lv_at hl 0 rfl) ?_
    exact w_iret (lf := fun g => (L, g)) hx hb hr hlocks f hw (rfl) dJ9_floorMod_7cf53_19
  · skip
    refine lv_iload_n hx hb dJ9_floorMod_7cf53_10 rfl (lv_at hl 0 rfl) ?_
    refine lv_if_eq (tgt := 18) hx hb dJ9_floorMod_7cf53_11 (by decide) (fun h2 => ?_) (fun h2 => ?_)
    · skip
      refine lv_iload_n hx hb dJ9_floorMod_7cf53_18 rfl (lv_at hl 0 rfl) ?_
      exact w_iret (lf := fun g => (L, g)) hx hb hr hlocks f hw (rfl) dJ9_floorMod_7cf53_19
    · skip
      refine lv_iload_n hx hb dJ9_floorMod_7cf53_14 rfl (lv_at hl 0 rfl) ?_
      refine lv_iload_n hx hb dJ9_floorMod_7cf53_15 rfl (lv_at hl 2 rfl) ?_
      refine lv_iadd hx hb dJ9_floorMod_7cf53_16 ?_
      exact w_iret (lf := fun g => (L, g)) hx hb hr hlocks f hw (rfl) dJ9_floorMod_7cf53_17
set_option maxRecDepth 100000 in
set_option maxHeartbeats 4000000 in
theorem c_J9_floorModL0 (l : Launch) (G : gG) (L : List Nat) (f : Nat → va_E) (sz : Nat) (b : Int64) (hb0 : ¬ b = 0) :
    Met l yJ9_floorMod_f86c9 (uW yJ9_floorMod_f86c9 cJ9_floorMod_f86c9 6 (some .long)) { frames := 0, cells := 0, slots := 0, locals := 0 } (wIn G [.long 0, .long b] L f sz) (va_Ql (fun (r9 : Int64) (g : Nat → va_E) => r9 = 0 ∧ g = f) (fun g => wAt G (wA L f sz) L g) (wA L f sz)) 0 0 (wA L f sz) := by
  refine wEnterF (by decide +kernel) (Nat.le_of_ble_eq_true rfl) ?_
  intro p e s m below meth c ls cx hinit hl hsz hw
  obtain ⟨hx, hb, hr, hml, hown, hts, hlocks⟩ := id cx
  have hown : s.vm.findClass RJ9 = some m.cls := hown
  have hl : lv_has ls 6 [(0, .long 0), (2, .long b)] := hl
  generalize wA L f sz = A at hw ⊢
  refine lv_lload_n hx hb dJ9_floorMod_f86c9_0 rfl (lv_at hl 0 rfl) ?_
  refine lv_lload_n hx hb dJ9_floorMod_f86c9_1 rfl (lv_at hl 1 rfl) ?_
  refine lv_lrem hx hb dJ9_floorMod_f86c9_2 hb0 ?_
  refine w_tl (y := 0) (z_rem _) ?_
  refine lv_lstore (lv' := [(4, .long 0), (0, .long 0), (2, .long b)]) hx hb dJ9_floorMod_f86c9_3 hl (by decide) rfl (fun ls hl => ?_)
  refine lv_lload_n hx hb dJ9_floorMod_f86c9_5 rfl (lv_at hl 1 rfl) ?_
  refine lv_lload_n hx hb dJ9_floorMod_f86c9_6 rfl (lv_at hl 2 rfl) ?_
  refine lv_lxor hx hb dJ9_floorMod_f86c9_7 ?_
  refine lv_lconst (v := 0) hx hb dJ9_floorMod_f86c9_8 (by decide) ?_
  refine n_lcmp_ge (tgt := 25) hx hb dJ9_floorMod_f86c9_9 dJ9_floorMod_f86c9_10 (by decide) (fun h => ?_) (fun h => ?_)
  · skip
    refine lv_lload hx hb dJ9_floorMod_f86c9_25 (lv_at hl 0 rfl) ?_
    exact w_lret (lf := fun g => (L, g)) hx hb hr hlocks f hw (⟨rfl, rfl⟩) dJ9_floorMod_f86c9_27
  · skip
    refine lv_lload hx hb dJ9_floorMod_f86c9_13 (lv_at hl 0 rfl) ?_
    refine lv_lconst (v := 0) hx hb dJ9_floorMod_f86c9_15 (by decide) ?_
    refine n_lcmp_eq (tgt := 25) hx hb dJ9_floorMod_f86c9_16 dJ9_floorMod_f86c9_17 (by decide) (fun h2 => ?_) (fun h2 => ?_)
    · skip
      refine lv_lload hx hb dJ9_floorMod_f86c9_25 (lv_at hl 0 rfl) ?_
      exact w_lret (lf := fun g => (L, g)) hx hb hr hlocks f hw (⟨rfl, rfl⟩) dJ9_floorMod_f86c9_27
    · skip
      exact absurd rfl h2
set_option maxRecDepth 100000 in
set_option maxHeartbeats 4000000 in
theorem lp_X7_value {p : Program} {l : Launch} {e : Env} {R : Room} {s : State} {m : MethodId} {args : Array Value} {below : List Frame} {meth : Method} {c : Code} {cells slots : Nat} {Q : State → Prop} {G : gG} {A : Nat → Prop} {H0 : Heap} {L : List Nat} (hx : p.tables.exec = Jvm.exec) (hb : c.code = cX7_value) (fx : CallFix p m c cX7_value 9 s args uU RX7) (hown : s.vm.findClass RX7 = some m.cls) (hts : ∀ w ∈ uU, w.before args s = true) (hR : 1 ≤ R.frames ∧ 25 ≤ R.locals) (hf : cells + 0 ≤ R.cells ∧ slots + 0 ≤ R.slots) {f : Nat → va_E} {x co p9 mm : Nat} {fs : List Value} {cr0 : Nat → Option Nat} {cr : Nat → Nat} {pl : Int64} (hxL : x ∈ L) (hxo : f x = eO 7 fs) (hfs0 : fs[0]? = some (.ref co)) (hcoL : co ∈ L) (hco : f co = eII G 80 cr0) (hcr : ∀ j, j < 80 → cr0 j = some (cr j)) (hcrL : ∀ j, j < 80 → cr j ∈ L) (hcv : ∀ j, j < 80 → f (cr j) = eI G 11 (fun _ => 0)) (hp9 : p9 < 80) (hm0 : 0 < mm) (hmm : mm < 2 ^ 31) (kk : ∀ H locs ls, wH G A H0 s L f H locs → lv_has ls 9 [(6, .long 0)] → W p l e R s m args below meth c H locs cells slots Q (F0 m 74 ls [])) :
    ∀ j : Nat, j ≤ 11 → ∀ (H : Heap) (locs : List Loc) (ls : Array Slot), wH G A H0 s L f H locs → lv_has ls 9 [(8, .int (nI j - nI 1)), (6, .long 0), (4, .long pl), (0, .ref x), (1, .int (nI p9)), (3, .int (nI mm))] → W p l e R s m args below meth c H locs cells slots Q (F0 m 40 ls []) := by
  intro j
  induction j with
  | zero =>
    intro _ H locs ls hw hl
    refine lv_iload hx hb dX7_value_40 (lv_at hl 0 rfl) ?_
    refine lv_if_lt (tgt := 74) hx hb dX7_value_42 (by decide) (fun _ => ?_) (fun h => absurd nI_m1_neg h)
    exact kk H locs ls hw (lv_sub hl [1] rfl)
  | succ j ih =>
    intro hj H locs ls hw hl
    refine lv_iload hx hb dX7_value_40 (lv_at hl 0 rfl) ?_
    refine lv_if_lt (tgt := 74) hx hb dX7_value_42 (by decide) (fun h => absurd h (by rw [nI_sub1]; exact nI_pos (by omega))) (fun _ => ?_)
    refine lv_lload hx hb dX7_value_45 (lv_at hl 1 rfl) ?_
    refine lv_lload hx hb dX7_value_47 (lv_at hl 2 rfl) ?_
    refine lv_lmul hx hb dX7_value_49 ?_
    refine lv_aload_n hx hb dX7_value_50 rfl (lv_at hl 3 rfl) ?_
    refine w_get (C := RX7) (T := TX7) (N := 15) (ci := 7) (ref := "LiftFactors") (v := .ref co) hx hb hts inX7_u hown hw hxL hxo rfl 0 (by decide) u_0 rfl hfs0 dX7_value_51 ?_
    refine lv_iload_n hx hb dX7_value_54 rfl (lv_at hl 4 rfl) ?_
    refine n_aald hx hb hw hcoL (Or.inl hco) p9 (by omega) (by omega) (hcr _ (by omega)) dX7_value_55 ?_
    refine lv_iload hx hb dX7_value_56 (lv_at hl 0 rfl) ?_
    refine w_ti (nI_sub1 j) ?_
    refine n_iald hx hb hw (hcrL _ hp9) (hcv _ hp9) j (by omega) (by omega) dX7_value_58 ?_
    refine lv_i2l (v := (((fun _ => 0)) j).toInt64) hx hb dX7_value_59 rfl ?_
    refine lv_ladd hx hb dX7_value_60 ?_
    refine w_tl (y := 0) (z_mul _) ?_
    refine lv_iload_n hx hb dX7_value_61 rfl (lv_at hl 5 rfl) ?_
    refine lv_i2l (v := (nI mm).toInt64) hx hb dX7_value_62 rfl ?_
    refine w_callSl (lf := fun g => (L, g)) (As := [.long 0, .long ((nI mm).toInt64)]) (rest := []) fx hw (c_J9_floorModL0 l G L f _ (nI mm).toInt64 (by rw [nI_l hmm]; exact fun q => by have := (pk_lEQ (a := mm) (b := 0) (by omega) (by omega)).mp q; omega)) (w_cS 2 hts u_163 u_164 u_165 u_166 rfl rfl (by decide) hR) hl.1 rfl (lv_room (Nat.le_of_ble_eq_true rfl)) dX7_value_63 hf (fun r9 u H locs hp hw => ?_)
    obtain ⟨e9, e10⟩ := hp
    have hw : wH G A H0 s L u H locs := hw
    rw [e10] at hw
    subst e9
    refine lv_lstore (lv' := [(6, .long 0), (8, .int (nI (j + 1) - nI 1)), (4, .long pl), (0, .ref x), (1, .int (nI p9)), (3, .int (nI mm))]) hx hb dX7_value_66 hl (by decide) rfl (fun ls hl => ?_)
    refine lv_iinc (v := nI j - nI 1) (lv' := [(8, .int (nI j - nI 1)), (6, .long 0), (4, .long pl), (0, .ref x), (1, .int (nI p9)), (3, .int (nI mm))]) hx hb dX7_value_68 hl (k := 1) rfl (by rw [nI_sub1]; exact nI_dec1 j) (by decide) rfl (fun ls hl => ?_)
    refine lv_goto (tgt := 40) hx hb dX7_value_71 (by decide) ?_
    exact ih (by omega) H locs ls hw hl
set_option maxRecDepth 100000 in
set_option maxHeartbeats 4000000 in
theorem z_X7_value (l : Launch) (hl0 : l.stackTraces = false) (G : gG) (L : List Nat) (f : Nat → va_E) (sz : Nat) (x : Nat) (own : Nat → Prop) (hz : cZ G L f x own) (v z q : Int32) :
    vx_Met l yX7_value (uW yX7_value cX7_value 9 (some .int)) { frames := 8, cells := 2, slots := 12, locals := 115 } (wInX G [.ref x, .int v, .int z, .int q] L f sz) (va_Qi (fun (r9 : Int32) (g : Nat → va_E) => ((inB v 80 && okM q) = true ∧ r9 = nI 0) ∧ cO own f g) (fun g => wAt G (wA L f sz) L g) (wA L f sz)) (xX G (wA L f sz) L (fun E g => (E = nAI ∧ inB v 80 = false ∨ E = nIA ∧ inB v 80 = true ∧ okM q = false) ∧ cO own f g)) 2 12 (wA L f sz) := by
  refine wEnterX (by decide) (Nat.le_of_ble_eq_true rfl) ?_
  intro p e s m below meth c ls cx hnt hl hsz hw hX
  obtain ⟨hx, hb, hr, hml, hown, hts, hlocks⟩ := id cx
  have hown : s.vm.findClass RX7 = some m.cls := hown
  have hl : lv_has ls 9 [(0, .ref x), (1, .int v), (2, .int z), (3, .int q)] := hl
  generalize wA L f sz = A at hw hX ⊢
  obtain ⟨fs, fs6, fs3, co, b1, b2, b3, b4, o3, o6, cr0, cr, r1, r2, r3, r4, hxL, hxo, hfl, hfs0, hfs1, hfs4, hfs5, hfs6, hfs7, hfs8, hfs11, hfs14, hcoL, hco, hcr, hcrL, hcv, h1L, hb1, h2L, hb2, h3L, hb3, h4L, hb4, n12, n13, n23, ho3L, ho3, ho6L, ho6, hfl6, ow_x, ow_b1, ow_b2, ow_b3, ow_b4, ow_o6, ow_cr⟩ := hz
  have n_x_b1 : x ≠ b1 := ne_E hb1 hxo (by simp)
  have n_x_b2 : x ≠ b2 := ne_E hb2 hxo (by simp)
  have n_x_b3 : x ≠ b3 := ne_E hb3 hxo (by simp)
  have n_x_b4 : x ≠ b4 := ne_E hb4 hxo (by simp)
  have n_x_co : x ≠ co := ne_E hco hxo (by simp)
  have n_x_o3 : x ≠ o3 := ne_E ho3 hxo (by simp)
  have n_x_o6 : x ≠ o6 := ne_E ho6 hxo (by simp)
  have n_b1_x : b1 ≠ x := ne_E hxo hb1 (by simp)
  have n_b1_b2 : b1 ≠ b2 := n12
  have n_b1_b3 : b1 ≠ b3 := n13
  have n_b1_b4 : b1 ≠ b4 := ne_E hb4 hb1 (by simp)
  have n_b1_co : b1 ≠ co := ne_E hco hb1 (by simp)
  have n_b1_o3 : b1 ≠ o3 := ne_E ho3 hb1 (by simp)
  have n_b1_o6 : b1 ≠ o6 := ne_E ho6 hb1 (by simp)
  have n_b2_x : b2 ≠ x := ne_E hxo hb2 (by simp)
  have n_b2_b1 : b2 ≠ b1 := (n12).symm
  have n_b2_b3 : b2 ≠ b3 := n23
  have n_b2_b4 : b2 ≠ b4 := ne_E hb4 hb2 (by simp)
  have n_b2_co : b2 ≠ co := ne_E hco hb2 (by simp)
  have n_b2_o3 : b2 ≠ o3 := ne_E ho3 hb2 (by simp)
  have n_b2_o6 : b2 ≠ o6 := ne_E ho6 hb2 (by simp)
  have n_b3_x : b3 ≠ x := ne_E hxo hb3 (by simp)
  have n_b3_b1 : b3 ≠ b1 := (n13).symm
  have n_b3_b2 : b3 ≠ b2 := (n23).symm
  have n_b3_b4 : b3 ≠ b4 := ne_E hb4 hb3 (by simp)
  have n_b3_co : b3 ≠ co := ne_E hco hb3 (by simp)
  have n_b3_o3 : b3 ≠ o3 := ne_E ho3 hb3 (by simp)
  have n_b3_o6 : b3 ≠ o6 := ne_E ho6 hb3 (by simp)
  have n_b4_x : b4 ≠ x := ne_E hxo hb4 (by simp)
  have n_b4_b1 : b4 ≠ b1 := ne_E hb1 hb4 (by simp)
  have n_b4_b2 : b4 ≠ b2 := ne_E hb2 hb4 (by simp)
  have n_b4_b3 : b4 ≠ b3 := ne_E hb3 hb4 (by simp)
  have n_b4_co : b4 ≠ co := ne_E hco hb4 (by simp)
  have n_b4_o3 : b4 ≠ o3 := ne_E ho3 hb4 (by simp)
  have n_b4_o6 : b4 ≠ o6 := ne_E ho6 hb4 (by simp)
  have n_co_x : co ≠ x := ne_E hxo hco (by simp)
  have n_co_b1 : co ≠ b1 := ne_E hb1 hco (by simp)
  have n_co_b2 : co ≠ b2 := ne_E hb2 hco (by simp)
  have n_co_b3 : co ≠ b3 := ne_E hb3 hco (by simp)
  have n_co_b4 : co ≠ b4 := ne_E hb4 hco (by simp)
  have n_co_o3 : co ≠ o3 := ne_E ho3 hco (by simp)
  have n_co_o6 : co ≠ o6 := ne_E ho6 hco (by simp)
  have n_o3_x : o3 ≠ x := ne_E hxo ho3 (by simp)
  have n_o3_b1 : o3 ≠ b1 := ne_E hb1 ho3 (by simp)
  have n_o3_b2 : o3 ≠ b2 := ne_E hb2 ho3 (by simp)
  have n_o3_b3 : o3 ≠ b3 := ne_E hb3 ho3 (by simp)
  have n_o3_b4 : o3 ≠ b4 := ne_E hb4 ho3 (by simp)
  have n_o3_co : o3 ≠ co := ne_E hco ho3 (by simp)
  have n_o3_o6 : o3 ≠ o6 := ne_E ho6 ho3 (by simp)
  have n_o6_x : o6 ≠ x := ne_E hxo ho6 (by simp)
  have n_o6_b1 : o6 ≠ b1 := ne_E hb1 ho6 (by simp)
  have n_o6_b2 : o6 ≠ b2 := ne_E hb2 ho6 (by simp)
  have n_o6_b3 : o6 ≠ b3 := ne_E hb3 ho6 (by simp)
  have n_o6_b4 : o6 ≠ b4 := ne_E hb4 ho6 (by simp)
  have n_o6_co : o6 ≠ co := ne_E hco ho6 (by simp)
  have n_o6_o3 : o6 ≠ o3 := ne_E ho3 ho6 (by simp)
  have ho0 : ∀ q : Nat, ¬ own q → f q = f q := fun q _ => rfl
  have hncr_x : ∀ j, j < 80 → cr j ≠ x := fun j hj => ne_E hxo (hcv j hj) (by simp)
  have hncr_b1 : ∀ j, j < 80 → cr j ≠ b1 := fun j hj => ne_E hb1 (hcv j hj) (by simp)
  have hncr_b2 : ∀ j, j < 80 → cr j ≠ b2 := fun j hj => ne_E hb2 (hcv j hj) (by simp)
  have hncr_b3 : ∀ j, j < 80 → cr j ≠ b3 := fun j hj => ne_E hb3 (hcv j hj) (by simp)
  have hncr_b4 : ∀ j, j < 80 → cr j ≠ b4 := fun j hj => ne_E hb4 (hcv j hj) (by simp)
  have hncr_o6 : ∀ j, j < 80 → cr j ≠ o6 := fun j hj => ne_E ho6 (hcv j hj) (by simp)
  refine lv_iload_n hx hb dX7_value_0 rfl (lv_at hl 1 rfl) ?_
  refine x_callSv (As := [.int v]) (rest := []) cx.fix hX hw (x_X7_requirePolynomial l hl0 G L f _ v) (w_cS 1 hts u_98 u_99 u_100 u_101 rfl rfl (by decide) (by decide)) hl.1 rfl (lv_room (Nat.le_of_ble_eq_true rfl)) dX7_value_1 (by decide) (fun E ce q9 u H locs hpe hw hce hcv hcl => ?_) (fun u H locs hp hw => ?_)
  · obtain ⟨hE, hno, e10⟩ := hpe
    rw [e10] at hw
    exact x_out hnt hlocks hw (⟨Or.inl ⟨hE, hno⟩, ho0⟩) hce hcv hcl (by decide) (by decide)
  obtain ⟨hinj, e10⟩ := hp
  rw [e10] at hw
  obtain ⟨j, hj, ejj⟩ := inB_of (by decide) hinj
  subst ejj
  refine lv_iload_n hx hb dX7_value_4 rfl (lv_at hl 3 rfl) ?_
  refine lv_iconst (v := nI 1) hx hb dX7_value_5 (by decide) ?_
  refine lv_icmp_lt (tgt := 15) hx hb dX7_value_6 (by decide) (fun hq1 => ?_) (fun hq1 => ?_)
  · skip
    exact w_throwS (text := "no such modulus") hx hb hl0 hown hts fit_IA fitn_2 uw_classLink_RX7_109_nIA uw_initialized_nIA (by decide +kernel) at_IA an_IA ot_IA hX hw (hl.1.trans hml.symm) dX7_value_15 dX7_value_18 dX7_value_19 dX7_value_21 dX7_value_24 hnt (by decide) (by decide) (by decide) (by decide) hlocks (⟨Or.inr ⟨rfl, hinj, by unfold okM; rw [decide_eq_true hq1]; simp⟩, ho0⟩) (by decide) (by decide)
  · skip
    refine lv_iload_n hx hb dX7_value_9 rfl (lv_at hl 3 rfl) ?_
    refine lv_ldc (v := nI 1000000) hx hb hown (hts _ u_167) dX7_value_10 ?_
    refine lv_icmp_le (tgt := 25) hx hb dX7_value_12 (by decide) (fun hq2 => ?_) (fun hq2 => ?_)
    · skip
      have hokq : (inB (nI j) 80 && okM q) = true := by rw [hinj, show okM q = true from by unfold okM; rw [decide_eq_false hq1, decide_eq_true hq2]; rfl]; rfl
      obtain ⟨mm, hmm, em⟩ := nI_of2 (x := q) (M := nI 1000000) (n := 1000000) (by decide) (fun z9 => hq1 (by rw [Int32.lt_iff_toInt_lt] at z9 ⊢; have e0 : (0 : Int32).toInt = 0 := rfl; have e2 : (nI 1).toInt = 1 := rfl; omega)) hq2
      subst em
      have hm0 : 0 < mm := by
        rcases Nat.eq_zero_or_pos mm with z9 | z9
        · subst z9; exact absurd (by decide) hq1
        · exact z9
      refine lv_iload_n hx hb dX7_value_25 rfl (lv_at hl 2 rfl) ?_
      refine lv_iload_n hx hb dX7_value_26 rfl (lv_at hl 3 rfl) ?_
      refine w_callSi (lf := fun g => (L, g)) (As := [.int z, .int (nI mm)]) (rest := []) cx.fix hw (c_J9_floorModI l G L f _ z (nI mm) (nI_ne0 hm0 (by omega))) (w_cS 2 hts u_168 u_169 u_170 u_171 rfl rfl (by decide) (by decide)) hl.1 rfl (lv_room (Nat.le_of_ble_eq_true rfl)) dX7_value_27 (by decide) (fun r9 u H locs hp hw => ?_)
      have hw : wH G A s.heap s L u H locs := hw
      rw [hp] at hw
      refine lv_i2l (v := r9.toInt64) hx hb dX7_value_30 rfl ?_
      refine lv_lstore (lv' := [(4, .long r9.toInt64), (0, .ref x), (1, .int (nI j)), (2, .int z), (3, .int (nI mm))]) hx hb dX7_value_31 hl (by decide) rfl (fun ls hl => ?_)
      refine lv_lconst (v := 0) hx hb dX7_value_33 (by decide) ?_
      refine lv_lstore (lv' := [(6, .long 0), (4, .long r9.toInt64), (0, .ref x), (1, .int (nI j)), (2, .int z), (3, .int (nI mm))]) hx hb dX7_value_34 hl (by decide) rfl (fun ls hl => ?_)
      refine lv_bipush (v := nI 10) hx hb dX7_value_36 (by decide) ?_
      refine lv_istore (lv' := [(8, .int (nI 10)), (6, .long 0), (4, .long r9.toInt64), (0, .ref x), (1, .int (nI j)), (2, .int z), (3, .int (nI mm))]) hx hb dX7_value_38 hl (by decide) rfl (fun ls hl => ?_)
      refine lp_X7_value hx hb cx.fix hown hts (by decide) (by decide) hxL hxo hfs0 hcoL hco hcr hcrL hcv hj hm0 (by omega) (fun H locs ls hw hl => ?_) 11 (Nat.le_refl _) _ _ ls hw (lv_sub hl [0, 1, 2, 3, 4, 6] rfl)
      refine lv_lload hx hb dX7_value_74 (lv_at hl 0 rfl) ?_
      refine lv_l2i (v := (0 : Int64).toInt32) hx hb dX7_value_76 rfl ?_
      refine vx_ret ?_
      refine W.widen (k := 2) (n := 12) (by decide) (by decide) ?_
      exact w_iret (lf := fun g => (L, g)) hx hb hr hlocks f hw (⟨⟨hokq, rfl⟩, ho0⟩) dX7_value_77
    · skip
      exact w_throwS (text := "no such modulus") hx hb hl0 hown hts fit_IA fitn_2 uw_classLink_RX7_109_nIA uw_initialized_nIA (by decide +kernel) at_IA an_IA ot_IA hX hw (hl.1.trans hml.symm) dX7_value_15 dX7_value_18 dX7_value_19 dX7_value_21 dX7_value_24 hnt (by decide) (by decide) (by decide) (by decide) hlocks (⟨Or.inr ⟨rfl, hinj, by unfold okM; rw [decide_eq_false hq2]; simp⟩, ho0⟩) (by decide) (by decide)
