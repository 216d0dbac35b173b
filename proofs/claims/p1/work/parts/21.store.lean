theorem u_35 : Cond.fieldLink RX8 61 "LiftFactorsModel" "given" "I" ∈ uU := uU_in (by decide +kernel) (by decide +kernel)
theorem u_36 : Cond.methodLink RX8 64 yX8_get ∈ uU := uU_in (by decide +kernel) (by decide +kernel)
theorem u_37 : Cond.instanceMethod yX8_get ∈ uU := uU_in (by decide +kernel) (by decide +kernel)
theorem u_38 : Cond.selects yX8_get.cls yX8_get yX8_get ∈ uU := uU_in (by decide +kernel) (by decide +kernel)
theorem u_39 : Cond.initialized yX8_get.cls ∈ uU := uU_in (by decide +kernel) (by decide +kernel)
theorem u_40 : Cond.code yX8_get cX8_get 3 (some .long) ∈ uU := uU_in (by decide +kernel) (by decide +kernel)
set_option maxRecDepth 100000 in
set_option maxHeartbeats 4000000 in
theorem lp_X8_store {p : Program} {l : Launch} {e : Env} {R : Room} {s : State} {m : MethodId} {args : Array Value} {below : List Frame} {meth : Method} {c : Code} {cells slots : Nat} {Q : State → Prop} {G : gG} {A : Nat → Prop} {H0 : Heap} {L : List Nat} (hx : p.tables.exec = Jvm.exec) (hb : c.code = cX8_store) (fx : CallFix p m c cX8_store 3 s args uU RX8) (hown : s.vm.findClass RX8 = some m.cls) (hts : ∀ w ∈ uU, w.before args s = true) (hR : 1 ≤ R.frames ∧ 22 ≤ R.locals) (hf : cells + 0 ≤ R.cells ∧ slots + 0 ≤ R.slots) {f : Nat → va_E} {x ww dd ca S i : Nat} {fs : List Value} {wr : Nat → Int64} {dr cv : Nat → Int32} (hxL : x ∈ L) (hxo : f x = eO 8 fs) (hfl : fs.length = 18) (hfs1 : fs[1]? = some (.ref ca)) (hfs2 : fs[2]? = some (.int (nI i))) (hfs7 : fs[7]? = some (.ref ww)) (hfs8 : fs[8]? = some (.ref dd)) (hwL : ww ∈ L) (hww : f ww = eJ G 1440 wr) (hdL : dd ∈ L) (hdd : f dd = eI G 60 dr) (hcL : ca ∈ L) (hca : f ca = eI G 880 cv) (hcd : dd ≠ ca) (hS : S < 60) (hi : i < 80) (kk : ∀ H locs ls, wH G A H0 s L (va_up f ca (eI G 880 (updB cv (11 * i) (fun k => (if nI k ≤ dr S then wr (24 * S + k) else 0).toInt32) 11))) H locs → lv_has ls 3 [(0, .ref x), (1, .int (nI S))] → W p l e R s m args below meth c H locs cells slots Q (F0 m 35 ls [])) :
    ∀ (d k : Nat) (H : Heap) (locs : List Loc) (ls : Array Slot), k ≤ 11 → 11 + 1 ≤ k + d → wH G A H0 s L (va_up f ca (eI G 880 (updB cv (11 * i) (fun k => (if nI k ≤ dr S then wr (24 * S + k) else 0).toInt32) k))) H locs → lv_has ls 3 [(2, .int (nI k)), (0, .ref x), (1, .int (nI S))] → W p l e R s m args below meth c H locs cells slots Q (F0 m 2 ls []) := by
  have hne_x : x ≠ ca := ne_E hca hxo (by simp)
  have hne_ww : ww ≠ ca := ne_E hca hww (by simp)
  have hne_dd : dd ≠ ca := hcd
  intro d
  induction d with
  | zero => intro k H locs ls h1 h2; exact absurd h2 (by omega)
  | succ d ih =>
    intro k H locs ls hk hd hw hl
    refine lv_iload_n hx hb dX8_store_2 rfl (lv_at hl 0 rfl) ?_
    refine lv_bipush (v := nI 11) hx hb dX8_store_3 (by decide) ?_
    refine n_icmp_ge (tgt := 35) hx hb (by omega) (by omega) dX8_store_5 (by decide) (fun h => ?_) (fun h => ?_)
    · skip
      rw [show k = 11 by omega] at hw
      exact kk H locs ls hw (lv_sub hl [1, 2] rfl)
    · skip
      refine lv_aload_n hx hb dX8_store_8 rfl (lv_at hl 1 rfl) ?_
      refine w_get (C := RX8) (T := TX8) (N := 18) (ci := 8) (ref := "LiftFactorsModel") (v := .ref ca) hx hb hts inX8_u hown hw hxL ((va_up_ne _ _ (hne_x)).trans hxo) rfl 1 (by decide) u_29 rfl hfs1 dX8_store_9 ?_
      refine lv_bipush (v := nI 11) hx hb dX8_store_12 (by decide) ?_
      refine lv_aload_n hx hb dX8_store_14 rfl (lv_at hl 1 rfl) ?_
      refine w_get (C := RX8) (T := TX8) (N := 18) (ci := 8) (ref := "LiftFactorsModel") (v := .int (nI i)) hx hb hts inX8_u hown hw hxL ((va_up_ne _ _ (hne_x)).trans hxo) rfl 2 (by decide) u_35 rfl hfs2 dX8_store_15 ?_
      refine lv_imul hx hb dX8_store_18 ?_
      refine w_ti (y := nI (11 * i)) (pk_mul _ _) ?_
      refine lv_iload_n hx hb dX8_store_19 rfl (lv_at hl 0 rfl) ?_
      refine lv_iadd hx hb dX8_store_20 ?_
      refine w_ti (y := nI ((11 * i) + k)) (nI_add _ _) ?_
      refine lv_aload_n hx hb dX8_store_21 rfl (lv_at hl 1 rfl) ?_
      refine lv_iload_n hx hb dX8_store_22 rfl (lv_at hl 2 rfl) ?_
      refine lv_iload_n hx hb dX8_store_23 rfl (lv_at hl 0 rfl) ?_
      refine w_callVl (lf := fun g => (L, g)) (As := [.int (nI S), .int (nI k)]) (rest := [.int (nI ((11 * i) + k)), .ref ca]) fx hw (c_X8_get l G L (va_up f ca (eI G 880 (updB cv (11 * i) (fun k => (if nI k ≤ dr S then wr (24 * S + k) else 0).toInt32) k))) _ x ww dd S k fs wr dr hxL ((va_up_ne _ _ hne_x).trans hxo) hfs7 hfs8 hwL ((va_up_ne _ _ hne_ww).trans hww) hdL ((va_up_ne _ _ hne_dd).trans hdd) hS (by omega)) hxL ((va_up_ne _ _ (hne_x)).trans hxo) rfl rfl (w_cV 2 hts u_36 u_37 u_38 u_39 u_40 rfl rfl (by decide) hR) hl.1 rfl (lv_room (Nat.le_of_ble_eq_true rfl)) dX8_store_24 hf (fun r9 u H locs hp hw => ?_)
      obtain ⟨e9, e10⟩ := hp
      have hw : wH G A H0 s L u H locs := hw
      rw [e10] at hw
      subst e9
      refine lv_l2i (v := (if nI k ≤ dr S then wr (24 * S + k) else 0).toInt32) hx hb dX8_store_27 rfl ?_
      refine n_iast hx hb hw hcL (va_up_eq _ _ _) ((11 * i) + k) (by omega) (by omega) dX8_store_28 (fun H locs hw => ?_)
      rw [va_uu, updB_sI cv (11 * i) (fun k => (if nI k ≤ dr S then wr (24 * S + k) else 0).toInt32) k] at hw
      refine lv_iinc (v := nI (k + 1)) (lv' := [(2, .int (nI (k + 1))), (0, .ref x), (1, .int (nI S))]) hx hb dX8_store_29 hl (k := 0) rfl (w_inc _) (by decide) rfl (fun ls hl => ?_)
      refine lv_goto (tgt := 2) hx hb dX8_store_32 (by decide) ?_
      exact ih (k + 1) H locs ls (by omega) (by omega) hw (lv_sub hl [0, 1, 2] rfl)
set_option maxRecDepth 100000 in
set_option maxHeartbeats 4000000 in
theorem c_X8_store (l : Launch) (G : gG) (L : List Nat) (f : Nat → va_E) (sz : Nat) (x ww dd ca S i : Nat) (fs : List Value) (wr : Nat → Int64) (dr cv : Nat → Int32) (hxL : x ∈ L) (hxo : f x = eO 8 fs) (hfl : fs.length = 18) (hfs1 : fs[1]? = some (.ref ca)) (hfs2 : fs[2]? = some (.int (nI i))) (hfs7 : fs[7]? = some (.ref ww)) (hfs8 : fs[8]? = some (.ref dd)) (hwL : ww ∈ L) (hww : f ww = eJ G 1440 wr) (hdL : dd ∈ L) (hdd : f dd = eI G 60 dr) (hcL : ca ∈ L) (hca : f ca = eI G 880 cv) (hcd : dd ≠ ca) (hS : S < 60) (hi : i < 80) :
    Met l yX8_store (uW yX8_store cX8_store 3 (some .int)) { frames := 1, cells := 0, slots := 0, locals := 22 } (wIn G [.ref x, .int (nI S)] L f sz) (va_Qi (fun (r9 : Int32) (g : Nat → va_E) => r9 = nI i ∧ g = va_up (va_up f ca (eI G 880 (updB cv (11 * i) (fun k => (if nI k ≤ dr S then wr (24 * S + k) else 0).toInt32) 11))) x (eO 8 (fs.set 2 (.int (nI (i + 1)))))) (fun g => wAt G (wA L f sz) L g) (wA L f sz)) 0 0 (wA L f sz) := by
  refine wEnter (by decide) (Nat.le_of_ble_eq_true rfl) ?_
  intro p e s m below meth c ls cx hinit hl hsz hw
  obtain ⟨hx, hb, hr, hml, hown, hts, hlocks⟩ := id cx
  have hown : s.vm.findClass RX8 = some m.cls := hown
  have hl : lv_has ls 3 [(0, .ref x), (1, .int (nI S))] := hl
  generalize wA L f sz = A at hw ⊢
  rw [← va_us f ca hca] at hw
  have hne_x : x ≠ ca := ne_E hca hxo (by simp)
  refine lv_iconst (v := nI 0) hx hb dX8_store_0 (by decide) ?_
  refine lv_istore_n (lv' := [(2, .int (nI 0)), (0, .ref x), (1, .int (nI S))]) hx hb dX8_store_1 rfl hl (by decide) rfl (fun ls hl => ?_)
  refine lp_X8_store (f := f) hx hb cx.fix hown hts (by decide) (by decide) hxL hxo hfl hfs1 hfs2 hfs7 hfs8 hwL hww hdL hdd hcL hca hcd hS hi (fun H locs ls hw hl => ?_) 12 0 _ _ ls (by omega) (by omega) (by rw [updB_0]; exact hw) hl
  refine lv_aload_n hx hb dX8_store_35 rfl (lv_at hl 0 rfl) ?_
  refine lv_dup hx hb dX8_store_36 rfl ?_
  refine w_get (C := RX8) (T := TX8) (N := 18) (ci := 8) (ref := "LiftFactorsModel") (v := .int (nI i)) hx hb hts inX8_u hown hw hxL ((va_up_ne _ _ hne_x).trans hxo) rfl 2 (by decide) u_35 rfl hfs2 dX8_store_37 ?_
  refine lv_iconst (v := nI 1) hx hb dX8_store_40 (by decide) ?_
  refine lv_iadd hx hb dX8_store_41 ?_
  refine w_ti (y := nI (i + 1)) (nI_add _ _) ?_
  refine w_put (C := RX8) (T := TX8) (N := 18) (ci := 8) (ref := "LiftFactorsModel") (ty := .int) (v := .int (nI (i + 1))) hx hb hts inX8_u tyX8 tyX8_ok nmX8 hown hw hxL ((va_up_ne _ _ hne_x).trans hxo) rfl 2 (by decide) u_35 rfl rfl (by decide +kernel) rfl rfl (by first | omega | decide) dX8_store_42 (fun H locs hw => ?_)
  have hg2 : (fs.set 2 (.int (nI (i + 1))))[2]? = some (.int (nI (i + 1))) := by rw [List.getElem?_set_self (by omega)]
  refine lv_aload_n hx hb dX8_store_45 rfl (lv_at hl 0 rfl) ?_
  refine w_get (C := RX8) (T := TX8) (N := 18) (ci := 8) (ref := "LiftFactorsModel") (v := .int (nI (i + 1))) hx hb hts inX8_u hown hw hxL (va_up_eq _ _ _) rfl 2 (by decide) u_35 rfl hg2 dX8_store_46 ?_
  refine lv_iconst (v := nI 1) hx hb dX8_store_49 (by decide) ?_
  refine lv_isub hx hb dX8_store_50 ?_
  refine w_ti (nI_sub1 i) ?_
  exact w_iret (lf := fun g => (L, g)) hx hb hr hlocks _ hw (⟨rfl, rfl⟩) dX8_store_51
