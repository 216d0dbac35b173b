theorem u_50 : Cond.methodLink RX8 106 yX8_primitive ∈ uU := uU_in (by decide +kernel) (by decide +kernel)
theorem u_51 : Cond.instanceMethod yX8_primitive ∈ uU := uU_in (by decide +kernel) (by decide +kernel)
theorem u_52 : Cond.selects yX8_primitive.cls yX8_primitive yX8_primitive ∈ uU := uU_in (by decide +kernel) (by decide +kernel)
theorem u_53 : Cond.initialized yX8_primitive.cls ∈ uU := uU_in (by decide +kernel) (by decide +kernel)
theorem u_54 : Cond.code yX8_primitive cX8_primitive 5 (some .long) ∈ uU := uU_in (by decide +kernel) (by decide +kernel)
theorem u_55 : Cond.fieldLink RX8 214 "LiftFactorsModel" "roots" "I" ∈ uU := uU_in (by decide +kernel) (by decide +kernel)
theorem u_56 : Cond.fieldLink RX8 202 "LiftFactorsModel" "factors" "I" ∈ uU := uU_in (by decide +kernel) (by decide +kernel)
theorem u_57 : Cond.methodLink RX8 92 yX8_constant ∈ uU := uU_in (by decide +kernel) (by decide +kernel)
theorem u_58 : Cond.instanceMethod yX8_constant ∈ uU := uU_in (by decide +kernel) (by decide +kernel)
theorem u_59 : Cond.selects yX8_constant.cls yX8_constant yX8_constant ∈ uU := uU_in (by decide +kernel) (by decide +kernel)
theorem u_60 : Cond.initialized yX8_constant.cls ∈ uU := uU_in (by decide +kernel) (by decide +kernel)
theorem u_61 : Cond.code yX8_constant cX8_constant 4 none ∈ uU := uU_in (by decide +kernel) (by decide +kernel)
theorem u_62 : Cond.methodLink RX8 205 yX8_store ∈ uU := uU_in (by decide +kernel) (by decide +kernel)
theorem u_63 : Cond.instanceMethod yX8_store ∈ uU := uU_in (by decide +kernel) (by decide +kernel)
theorem u_64 : Cond.selects yX8_store.cls yX8_store yX8_store ∈ uU := uU_in (by decide +kernel) (by decide +kernel)
theorem u_65 : Cond.initialized yX8_store.cls ∈ uU := uU_in (by decide +kernel) (by decide +kernel)
theorem u_66 : Cond.code yX8_store cX8_store 3 (some .int) ∈ uU := uU_in (by decide +kernel) (by decide +kernel)
theorem u_67 : Cond.methodLink RX8 208 yX8_isPower ∈ uU := uU_in (by decide +kernel) (by decide +kernel)
theorem u_68 : Cond.static yX8_isPower ∈ uU := uU_in (by decide +kernel) (by decide +kernel)
theorem u_69 : Cond.initialized yX8_isPower.cls ∈ uU := uU_in (by decide +kernel) (by decide +kernel)
theorem u_70 : Cond.code yX8_isPower cX8_isPower 1 (some .boolean) ∈ uU := uU_in (by decide +kernel) (by decide +kernel)
set_option maxRecDepth 100000 in
set_option maxHeartbeats 4000000 in
theorem z_X8_content (l : Launch) (G : gG) (L : List Nat) (f : Nat → va_E) (sz : Nat) (x ww dd ca : Nat) (hz : mZ G L f x ww dd ca) (v : Int32) :
    Met l yX8_content (uW yX8_content cX8_content 2 (some .int)) { frames := 2, cells := 0, slots := 0, locals := 46 } (wIn G [.ref x, .int v] L f sz) (va_Qi (fun (r9 : Int32) (g : Nat → va_E) => (inB v 80 = true → r9 = nI 0) ∧ mO f g x ww dd ca (if inB v 80 then nI 0 else nI 1)) (fun g => wAt G (wA L f sz) L g) (wA L f sz)) 0 0 (wA L f sz) := by
  refine wEnter (by decide) (Nat.le_of_ble_eq_true rfl) ?_
  intro p e s m below meth c ls cx hinit hl hsz hw
  obtain ⟨hx, hb, hr, hml, hown, hts, hlocks⟩ := id cx
  have hown : s.vm.findClass RX8 = some m.cls := hown
  have hl : lv_has ls 2 [(0, .ref x), (1, .int v)] := hl
  generalize wA L f sz = A at hw ⊢
  obtain ⟨fs, wr, dr, hxL, hxo, hfl, hfs1, hfs2, hfs3, hfs4, hfs7, hfs8, hwL, hww, hdL, hdd, hcL, hca, hcd⟩ := hz
  have n_x_ww : x ≠ ww := ne_E hww hxo (by simp)
  have n_x_dd : x ≠ dd := ne_E hdd hxo (by simp)
  have n_x_ca : x ≠ ca := ne_E hca hxo (by simp)
  have n_ww_x : ww ≠ x := ne_E hxo hww (by simp)
  have n_ww_dd : ww ≠ dd := ne_E hdd hww (by simp)
  have n_ww_ca : ww ≠ ca := ne_E hca hww (by simp)
  have n_dd_x : dd ≠ x := ne_E hxo hdd (by simp)
  have n_dd_ww : dd ≠ ww := ne_E hww hdd (by simp)
  have n_dd_ca : dd ≠ ca := hcd
  have n_ca_x : ca ≠ x := ne_E hxo hca (by simp)
  have n_ca_ww : ca ≠ ww := ne_E hww hca (by simp)
  have n_ca_dd : ca ≠ dd := (hcd).symm
  have ho0 : ∀ q : Nat, q ≠ x → q ≠ ww → q ≠ dd → q ≠ ca → f q = f q := fun q _ _ _ _ => rfl
  refine lv_aload_n hx hb dX8_content_0 rfl (lv_at hl 0 rfl) ?_
  refine lv_iload_n hx hb dX8_content_1 rfl (lv_at hl 1 rfl) ?_
  refine w_callSi (lf := fun g => (L, g)) (As := [.int v]) (rest := [.ref x]) cx.fix hw (c_X8_isPoly l G L f _ v) (w_cS 1 hts u_41 u_42 u_43 u_44 rfl rfl (by decide) (by decide)) hl.1 rfl (lv_room (Nat.le_of_ble_eq_true rfl)) dX8_content_2 (by decide) (fun r9 u H locs hp hw => ?_)
  rcases hp with ⟨⟨e9, j, hj, ejj⟩ | ⟨e9, hno⟩, e10⟩
  · skip
    have hw : wH G A s.heap s L u H locs := hw
    rw [e10] at hw
    subst e9
    subst ejj
    rw [inB_t (by decide) hj]
    refine lv_if_eq (tgt := 12) hx hb dX8_content_5 (by decide) (fun h => absurd h (by decide)) (fun _ => ?_)
    refine lv_iconst (v := nI 0) hx hb dX8_content_8 (by decide) ?_
    refine lv_goto (tgt := 13) hx hb dX8_content_9 (by decide) ?_
    refine w_put (C := RX8) (T := TX8) (N := 18) (ci := 8) (ref := "LiftFactorsModel") (ty := .int) (v := .int (nI 0)) hx hb hts inX8_u tyX8 tyX8_ok nmX8 hown hw hxL hxo rfl 3 (by decide) u_26 rfl rfl (by decide +kernel) rfl rfl (by first | omega | decide) dX8_content_13 (fun H locs hw => ?_)
    obtain ⟨fs1, hz1⟩ : ∃ zz9, zz9 = fs.set 3 (.int (nI 0)) := ⟨_, rfl⟩
    rw [← hz1] at hw
    have hlen1 : fs1.length = 18 := by rw [hz1, List.length_set]; exact hfl
    have g1_1 : fs1[1]? = some (.ref ca) := by rw [hz1, List.getElem?_set_ne (by decide)]; exact hfs1
    have g1_2 : fs1[2]? = some (.int (nI 0)) := by rw [hz1, List.getElem?_set_ne (by decide)]; exact hfs2
    have g1_4 : fs1[4]? = some (.int (nI 0)) := by rw [hz1, List.getElem?_set_ne (by decide)]; exact hfs4
    have g1_7 : fs1[7]? = some (.ref ww) := by rw [hz1, List.getElem?_set_ne (by decide)]; exact hfs7
    have g1_8 : fs1[8]? = some (.ref dd) := by rw [hz1, List.getElem?_set_ne (by decide)]; exact hfs8
    have g1_3 : fs1[3]? = some (.int (nI 0)) := by rw [hz1, List.getElem?_set_self (by omega)]
    obtain ⟨f2, hf2⟩ : ∃ g, g = va_up f x (eO 8 fs1) := ⟨_, rfl⟩
    rw [← hf2] at hw
    have h2_x : f2 x = eO 8 fs1 := by rw [hf2]; exact va_up_eq _ _ _
    have h2_ww : f2 ww = eJ G 1440 wr := by rw [hf2, va_up_ne _ _ n_ww_x]; exact hww
    have h2_dd : f2 dd = eI G 60 dr := by rw [hf2, va_up_ne _ _ n_dd_x]; exact hdd
    have h2_ca : f2 ca = eI G 880 (fun _ => 0) := by rw [hf2, va_up_ne _ _ n_ca_x]; exact hca
    have ho2 : ∀ q : Nat, q ≠ x → q ≠ ww → q ≠ dd → q ≠ ca → f2 q = f q := fun q hq0 hq1 hq2 hq3 => (show f2 q = f q from by rw [hf2]; exact va_up_ne _ _ hq0).trans (ho0 q hq0 hq1 hq2 hq3)
    refine lv_aload_n hx hb dX8_content_16 rfl (lv_at hl 0 rfl) ?_
    refine w_get (C := RX8) (T := TX8) (N := 18) (ci := 8) (ref := "LiftFactorsModel") (v := .int (nI 0)) hx hb hts inX8_u hown hw hxL h2_x rfl 3 (by decide) u_26 rfl g1_3 dX8_content_17 ?_
    refine lv_if_eq (tgt := 25) hx hb dX8_content_20 (by decide) (fun _ => ?_) (fun h => absurd (by decide) h)
    refine lv_aload_n hx hb dX8_content_25 rfl (lv_at hl 0 rfl) ?_
    refine lv_iload_n hx hb dX8_content_26 rfl (lv_at hl 1 rfl) ?_
    refine lv_iconst (v := nI 0) hx hb dX8_content_27 (by decide) ?_
    refine w_callVv (lf := fun g => (L, g)) (As := [.int (nI j), .int (nI 0)]) (rest := []) cx.fix hw (c_X8_load l G L f2 _ x ww dd ca 0 j fs1 wr dr (fun _ => 0) hxL h2_x g1_1 g1_7 g1_8 hwL h2_ww hdL h2_dd hcL h2_ca (by decide) hj) hxL h2_x rfl rfl (w_cV 2 hts u_45 u_46 u_47 u_48 u_49 rfl rfl (by decide) (by decide)) hl.1 rfl (lv_room (Nat.le_of_ble_eq_true rfl)) dX8_content_28 (by decide) (fun u H locs hp hw => ?_)
    have hw : wH G A s.heap s L u H locs := hw
    rw [hp] at hw
    obtain ⟨f3, hf3⟩ : ∃ g, g = va_up f2 ww (eJ G 1440 (updB wr (24 * 0) (fun k => ((fun _ => 0 : Nat → Int32) (11 * j + k)).toInt64) 11)) := ⟨_, rfl⟩
    rw [← hf3] at hw
    have h3_x : f3 x = eO 8 fs1 := by rw [hf3, va_up_ne _ _ n_x_ww]; exact h2_x
    have h3_ww : f3 ww = eJ G 1440 (updB wr (24 * 0) (fun k => ((fun _ => 0 : Nat → Int32) (11 * j + k)).toInt64) 11) := by rw [hf3]; exact va_up_eq _ _ _
    have h3_dd : f3 dd = eI G 60 dr := by rw [hf3, va_up_ne _ _ n_dd_ww]; exact h2_dd
    have h3_ca : f3 ca = eI G 880 (fun _ => 0) := by rw [hf3, va_up_ne _ _ n_ca_ww]; exact h2_ca
    have ho3 : ∀ q : Nat, q ≠ x → q ≠ ww → q ≠ dd → q ≠ ca → f3 q = f q := fun q hq0 hq1 hq2 hq3 => (show f3 q = f2 q from by rw [hf3]; exact va_up_ne _ _ hq1).trans (ho2 q hq0 hq1 hq2 hq3)
    rw [show dgp (fun k => ((fun _ => 0 : Nat → Int32) (11 * j + k)).toInt64) 11 = 0 from dgp_0 (fun _ _ => rfl)] at hw
    obtain ⟨f4, hf4⟩ : ∃ g, g = va_up f3 dd (eI G 60 (upd dr 0 (nI 0 - nI 1))) := ⟨_, rfl⟩
    rw [← hf4] at hw
    have h4_x : f4 x = eO 8 fs1 := by rw [hf4, va_up_ne _ _ n_x_dd]; exact h3_x
    have h4_ww : f4 ww = eJ G 1440 (updB wr (24 * 0) (fun k => ((fun _ => 0 : Nat → Int32) (11 * j + k)).toInt64) 11) := by rw [hf4, va_up_ne _ _ n_ww_dd]; exact h3_ww
    have h4_dd : f4 dd = eI G 60 (upd dr 0 (nI 0 - nI 1)) := by rw [hf4]; exact va_up_eq _ _ _
    have h4_ca : f4 ca = eI G 880 (fun _ => 0) := by rw [hf4, va_up_ne _ _ n_ca_dd]; exact h3_ca
    have ho4 : ∀ q : Nat, q ≠ x → q ≠ ww → q ≠ dd → q ≠ ca → f4 q = f q := fun q hq0 hq1 hq2 hq3 => (show f4 q = f3 q from by rw [hf4]; exact va_up_ne _ _ hq2).trans (ho3 q hq0 hq1 hq2 hq3)
    refine lv_aload_n hx hb dX8_content_31 rfl (lv_at hl 0 rfl) ?_
    refine lv_iconst (v := nI 0) hx hb dX8_content_32 (by decide) ?_
    refine w_callVl (lf := fun g => (L, g)) (As := [.int (nI 0)]) (rest := []) cx.fix hw (c_X8_primitive0 l G L f4 _ x ww dd 0 fs1 (updB wr (24 * 0) (fun k => ((fun _ => 0 : Nat → Int32) (11 * j + k)).toInt64) 11) (upd dr 0 (nI 0 - nI 1)) hxL h4_x g1_7 g1_8 hwL h4_ww hdL h4_dd (by decide) (show (upd dr 0 (nI 0 - nI 1)) 0 = nI 0 - nI 1 from by simp [upd])) hxL h4_x rfl rfl (w_cV 1 hts u_50 u_51 u_52 u_53 u_54 rfl rfl (by decide) (by decide)) hl.1 rfl (lv_room (Nat.le_of_ble_eq_true rfl)) dX8_content_33 (by decide) (fun r9 u H locs hp hw => ?_)
    obtain ⟨e9, e10⟩ := hp
    have hw : wH G A s.heap s L u H locs := hw
    rw [e10] at hw
    subst e9
    refine lv_l2i (v := (0 : Int64).toInt32) hx hb dX8_content_36 rfl ?_
    exact w_iret (lf := fun g => (L, g)) hx hb hr hlocks f4 hw (⟨(fun _ => rfl), ⟨fs1, h4_x, g1_3⟩, ho4⟩) dX8_content_37
  · skip
    have hw : wH G A s.heap s L u H locs := hw
    rw [e10] at hw
    subst e9
    rw [inB_f (by decide) hno]
    refine lv_if_eq (tgt := 12) hx hb dX8_content_5 (by decide) (fun _ => ?_) (fun h => absurd (by decide) h)
    refine lv_iconst (v := nI 1) hx hb dX8_content_12 (by decide) ?_
    refine w_put (C := RX8) (T := TX8) (N := 18) (ci := 8) (ref := "LiftFactorsModel") (ty := .int) (v := .int (nI 1)) hx hb hts inX8_u tyX8 tyX8_ok nmX8 hown hw hxL hxo rfl 3 (by decide) u_26 rfl rfl (by decide +kernel) rfl rfl (by first | omega | decide) dX8_content_13 (fun H locs hw => ?_)
    obtain ⟨fs5, hz5⟩ : ∃ zz9, zz9 = fs.set 3 (.int (nI 1)) := ⟨_, rfl⟩
    rw [← hz5] at hw
    have hlen5 : fs5.length = 18 := by rw [hz5, List.length_set]; exact hfl
    have g5_1 : fs5[1]? = some (.ref ca) := by rw [hz5, List.getElem?_set_ne (by decide)]; exact hfs1
    have g5_2 : fs5[2]? = some (.int (nI 0)) := by rw [hz5, List.getElem?_set_ne (by decide)]; exact hfs2
    have g5_4 : fs5[4]? = some (.int (nI 0)) := by rw [hz5, List.getElem?_set_ne (by decide)]; exact hfs4
    have g5_7 : fs5[7]? = some (.ref ww) := by rw [hz5, List.getElem?_set_ne (by decide)]; exact hfs7
    have g5_8 : fs5[8]? = some (.ref dd) := by rw [hz5, List.getElem?_set_ne (by decide)]; exact hfs8
    have g5_3 : fs5[3]? = some (.int (nI 1)) := by rw [hz5, List.getElem?_set_self (by omega)]
    obtain ⟨f6, hf6⟩ : ∃ g, g = va_up f x (eO 8 fs5) := ⟨_, rfl⟩
    rw [← hf6] at hw
    have h6_x : f6 x = eO 8 fs5 := by rw [hf6]; exact va_up_eq _ _ _
    have h6_ww : f6 ww = eJ G 1440 wr := by rw [hf6, va_up_ne _ _ n_ww_x]; exact hww
    have h6_dd : f6 dd = eI G 60 dr := by rw [hf6, va_up_ne _ _ n_dd_x]; exact hdd
    have h6_ca : f6 ca = eI G 880 (fun _ => 0) := by rw [hf6, va_up_ne _ _ n_ca_x]; exact hca
    have ho6 : ∀ q : Nat, q ≠ x → q ≠ ww → q ≠ dd → q ≠ ca → f6 q = f q := fun q hq0 hq1 hq2 hq3 => (show f6 q = f q from by rw [hf6]; exact va_up_ne _ _ hq0).trans (ho0 q hq0 hq1 hq2 hq3)
    refine lv_aload_n hx hb dX8_content_16 rfl (lv_at hl 0 rfl) ?_
    refine w_get (C := RX8) (T := TX8) (N := 18) (ci := 8) (ref := "LiftFactorsModel") (v := .int (nI 1)) hx hb hts inX8_u hown hw hxL h6_x rfl 3 (by decide) u_26 rfl g5_3 dX8_content_17 ?_
    refine lv_if_eq (tgt := 25) hx hb dX8_content_20 (by decide) (fun h => absurd h (by decide)) (fun _ => ?_)
    refine lv_iconst (v := nI 0) hx hb dX8_content_23 (by decide) ?_
    exact w_iret (lf := fun g => (L, g)) hx hb hr hlocks f6 hw (⟨(fun h => Bool.noConfusion h), ⟨fs5, h6_x, g5_3⟩, ho6⟩) dX8_content_24
set_option maxRecDepth 100000 in
set_option maxHeartbeats 4000000 in
theorem z_X8_roots (l : Launch) (G : gG) (L : List Nat) (f : Nat → va_E) (sz : Nat) (x ww dd ca : Nat) (hz : mZ G L f x ww dd ca) (v : Int32) :
    Met l yX8_roots (uW yX8_roots cX8_roots 2 (some .int)) { frames := 2, cells := 0, slots := 0, locals := 46 } (wIn G [.ref x, .int v] L f sz) (va_Qi (fun (r9 : Int32) (g : Nat → va_E) => (inB v 80 = true → r9 = -1) ∧ mO f g x ww dd ca (if inB v 80 then nI 0 else nI 1)) (fun g => wAt G (wA L f sz) L g) (wA L f sz)) 0 0 (wA L f sz) := by
  refine wEnter (by decide) (Nat.le_of_ble_eq_true rfl) ?_
  intro p e s m below meth c ls cx hinit hl hsz hw
  obtain ⟨hx, hb, hr, hml, hown, hts, hlocks⟩ := id cx
  have hown : s.vm.findClass RX8 = some m.cls := hown
  have hl : lv_has ls 2 [(0, .ref x), (1, .int v)] := hl
  generalize wA L f sz = A at hw ⊢
  obtain ⟨fs, wr, dr, hxL, hxo, hfl, hfs1, hfs2, hfs3, hfs4, hfs7, hfs8, hwL, hww, hdL, hdd, hcL, hca, hcd⟩ := hz
  have n_x_ww : x ≠ ww := ne_E hww hxo (by simp)
  have n_x_dd : x ≠ dd := ne_E hdd hxo (by simp)
  have n_x_ca : x ≠ ca := ne_E hca hxo (by simp)
  have n_ww_x : ww ≠ x := ne_E hxo hww (by simp)
  have n_ww_dd : ww ≠ dd := ne_E hdd hww (by simp)
  have n_ww_ca : ww ≠ ca := ne_E hca hww (by simp)
  have n_dd_x : dd ≠ x := ne_E hxo hdd (by simp)
  have n_dd_ww : dd ≠ ww := ne_E hww hdd (by simp)
  have n_dd_ca : dd ≠ ca := hcd
  have n_ca_x : ca ≠ x := ne_E hxo hca (by simp)
  have n_ca_ww : ca ≠ ww := ne_E hww hca (by simp)
  have n_ca_dd : ca ≠ dd := (hcd).symm
  have ho0 : ∀ q : Nat, q ≠ x → q ≠ ww → q ≠ dd → q ≠ ca → f q = f q := fun q _ _ _ _ => rfl
  refine lv_aload_n hx hb dX8_roots_0 rfl (lv_at hl 0 rfl) ?_
  refine lv_iload_n hx hb dX8_roots_1 rfl (lv_at hl 1 rfl) ?_
  refine w_callSi (lf := fun g => (L, g)) (As := [.int v]) (rest := [.ref x]) cx.fix hw (c_X8_isPoly l G L f _ v) (w_cS 1 hts u_41 u_42 u_43 u_44 rfl rfl (by decide) (by decide)) hl.1 rfl (lv_room (Nat.le_of_ble_eq_true rfl)) dX8_roots_2 (by decide) (fun r9 u H locs hp hw => ?_)
  rcases hp with ⟨⟨e9, j, hj, ejj⟩ | ⟨e9, hno⟩, e10⟩
  · skip
    have hw : wH G A s.heap s L u H locs := hw
    rw [e10] at hw
    subst e9
    subst ejj
    rw [inB_t (by decide) hj]
    refine lv_if_eq (tgt := 12) hx hb dX8_roots_5 (by decide) (fun h => absurd h (by decide)) (fun _ => ?_)
    refine lv_iconst (v := nI 0) hx hb dX8_roots_8 (by decide) ?_
    refine lv_goto (tgt := 13) hx hb dX8_roots_9 (by decide) ?_
    refine w_put (C := RX8) (T := TX8) (N := 18) (ci := 8) (ref := "LiftFactorsModel") (ty := .int) (v := .int (nI 0)) hx hb hts inX8_u tyX8 tyX8_ok nmX8 hown hw hxL hxo rfl 3 (by decide) u_26 rfl rfl (by decide +kernel) rfl rfl (by first | omega | decide) dX8_roots_13 (fun H locs hw => ?_)
    obtain ⟨fs1, hz1⟩ : ∃ zz9, zz9 = fs.set 3 (.int (nI 0)) := ⟨_, rfl⟩
    rw [← hz1] at hw
    have hlen1 : fs1.length = 18 := by rw [hz1, List.length_set]; exact hfl
    have g1_1 : fs1[1]? = some (.ref ca) := by rw [hz1, List.getElem?_set_ne (by decide)]; exact hfs1
    have g1_2 : fs1[2]? = some (.int (nI 0)) := by rw [hz1, List.getElem?_set_ne (by decide)]; exact hfs2
    have g1_4 : fs1[4]? = some (.int (nI 0)) := by rw [hz1, List.getElem?_set_ne (by decide)]; exact hfs4
    have g1_7 : fs1[7]? = some (.ref ww) := by rw [hz1, List.getElem?_set_ne (by decide)]; exact hfs7
    have g1_8 : fs1[8]? = some (.ref dd) := by rw [hz1, List.getElem?_set_ne (by decide)]; exact hfs8
    have g1_3 : fs1[3]? = some (.int (nI 0)) := by rw [hz1, List.getElem?_set_self (by omega)]
    obtain ⟨f2, hf2⟩ : ∃ g, g = va_up f x (eO 8 fs1) := ⟨_, rfl⟩
    rw [← hf2] at hw
    have h2_x : f2 x = eO 8 fs1 := by rw [hf2]; exact va_up_eq _ _ _
    have h2_ww : f2 ww = eJ G 1440 wr := by rw [hf2, va_up_ne _ _ n_ww_x]; exact hww
    have h2_dd : f2 dd = eI G 60 dr := by rw [hf2, va_up_ne _ _ n_dd_x]; exact hdd
    have h2_ca : f2 ca = eI G 880 (fun _ => 0) := by rw [hf2, va_up_ne _ _ n_ca_x]; exact hca
    have ho2 : ∀ q : Nat, q ≠ x → q ≠ ww → q ≠ dd → q ≠ ca → f2 q = f q := fun q hq0 hq1 hq2 hq3 => (show f2 q = f q from by rw [hf2]; exact va_up_ne _ _ hq0).trans (ho0 q hq0 hq1 hq2 hq3)
    refine lv_aload_n hx hb dX8_roots_16 rfl (lv_at hl 0 rfl) ?_
    refine w_get (C := RX8) (T := TX8) (N := 18) (ci := 8) (ref := "LiftFactorsModel") (v := .int (nI 0)) hx hb hts inX8_u hown hw hxL h2_x rfl 3 (by decide) u_26 rfl g1_3 dX8_roots_17 ?_
    refine lv_if_eq (tgt := 25) hx hb dX8_roots_20 (by decide) (fun _ => ?_) (fun h => absurd (by decide) h)
    refine lv_aload_n hx hb dX8_roots_25 rfl (lv_at hl 0 rfl) ?_
    refine lv_iload_n hx hb dX8_roots_26 rfl (lv_at hl 1 rfl) ?_
    refine lv_iconst (v := nI 0) hx hb dX8_roots_27 (by decide) ?_
    refine w_callVv (lf := fun g => (L, g)) (As := [.int (nI j), .int (nI 0)]) (rest := []) cx.fix hw (c_X8_load l G L f2 _ x ww dd ca 0 j fs1 wr dr (fun _ => 0) hxL h2_x g1_1 g1_7 g1_8 hwL h2_ww hdL h2_dd hcL h2_ca (by decide) hj) hxL h2_x rfl rfl (w_cV 2 hts u_45 u_46 u_47 u_48 u_49 rfl rfl (by decide) (by decide)) hl.1 rfl (lv_room (Nat.le_of_ble_eq_true rfl)) dX8_roots_28 (by decide) (fun u H locs hp hw => ?_)
    have hw : wH G A s.heap s L u H locs := hw
    rw [hp] at hw
    obtain ⟨f3, hf3⟩ : ∃ g, g = va_up f2 ww (eJ G 1440 (updB wr (24 * 0) (fun k => ((fun _ => 0 : Nat → Int32) (11 * j + k)).toInt64) 11)) := ⟨_, rfl⟩
    rw [← hf3] at hw
    have h3_x : f3 x = eO 8 fs1 := by rw [hf3, va_up_ne _ _ n_x_ww]; exact h2_x
    have h3_ww : f3 ww = eJ G 1440 (updB wr (24 * 0) (fun k => ((fun _ => 0 : Nat → Int32) (11 * j + k)).toInt64) 11) := by rw [hf3]; exact va_up_eq _ _ _
    have h3_dd : f3 dd = eI G 60 dr := by rw [hf3, va_up_ne _ _ n_dd_ww]; exact h2_dd
    have h3_ca : f3 ca = eI G 880 (fun _ => 0) := by rw [hf3, va_up_ne _ _ n_ca_ww]; exact h2_ca
    have ho3 : ∀ q : Nat, q ≠ x → q ≠ ww → q ≠ dd → q ≠ ca → f3 q = f q := fun q hq0 hq1 hq2 hq3 => (show f3 q = f2 q from by rw [hf3]; exact va_up_ne _ _ hq1).trans (ho2 q hq0 hq1 hq2 hq3)
    rw [show dgp (fun k => ((fun _ => 0 : Nat → Int32) (11 * j + k)).toInt64) 11 = 0 from dgp_0 (fun _ _ => rfl)] at hw
    obtain ⟨f4, hf4⟩ : ∃ g, g = va_up f3 dd (eI G 60 (upd dr 0 (nI 0 - nI 1))) := ⟨_, rfl⟩
    rw [← hf4] at hw
    have h4_x : f4 x = eO 8 fs1 := by rw [hf4, va_up_ne _ _ n_x_dd]; exact h3_x
    have h4_ww : f4 ww = eJ G 1440 (updB wr (24 * 0) (fun k => ((fun _ => 0 : Nat → Int32) (11 * j + k)).toInt64) 11) := by rw [hf4, va_up_ne _ _ n_ww_dd]; exact h3_ww
    have h4_dd : f4 dd = eI G 60 (upd dr 0 (nI 0 - nI 1)) := by rw [hf4]; exact va_up_eq _ _ _
    have h4_ca : f4 ca = eI G 880 (fun _ => 0) := by rw [hf4, va_up_ne _ _ n_ca_dd]; exact h3_ca
    have ho4 : ∀ q : Nat, q ≠ x → q ≠ ww → q ≠ dd → q ≠ ca → f4 q = f q := fun q hq0 hq1 hq2 hq3 => (show f4 q = f3 q from by rw [hf4]; exact va_up_ne _ _ hq2).trans (ho3 q hq0 hq1 hq2 hq3)
    refine lv_aload_n hx hb dX8_roots_31 rfl (lv_at hl 0 rfl) ?_
    refine w_get (C := RX8) (T := TX8) (N := 18) (ci := 8) (ref := "LiftFactorsModel") (v := .ref dd) hx hb hts inX8_u hown hw hxL h4_x rfl 8 (by decide) u_28 rfl g1_8 dX8_roots_32 ?_
    refine lv_iconst (v := nI 0) hx hb dX8_roots_35 (by decide) ?_
    refine n_iald hx hb hw hdL h4_dd 0 (by omega) (by omega) dX8_roots_36 ?_
    refine w_ti (show (upd dr 0 (nI 0 - nI 1)) 0 = nI 0 - nI 1 from by simp [upd]) ?_
    refine lv_if_ge (tgt := 42) hx hb dX8_roots_37 (by decide) (fun h => absurd h (by decide)) (fun _ => ?_)
    refine lv_iconst (v := (-1)) hx hb dX8_roots_40 (by decide) ?_
    exact w_iret (lf := fun g => (L, g)) hx hb hr hlocks f4 hw (⟨(fun _ => rfl), ⟨fs1, h4_x, g1_3⟩, ho4⟩) dX8_roots_41
  · skip
    have hw : wH G A s.heap s L u H locs := hw
    rw [e10] at hw
    subst e9
    rw [inB_f (by decide) hno]
    refine lv_if_eq (tgt := 12) hx hb dX8_roots_5 (by decide) (fun _ => ?_) (fun h => absurd (by decide) h)
    refine lv_iconst (v := nI 1) hx hb dX8_roots_12 (by decide) ?_
    refine w_put (C := RX8) (T := TX8) (N := 18) (ci := 8) (ref := "LiftFactorsModel") (ty := .int) (v := .int (nI 1)) hx hb hts inX8_u tyX8 tyX8_ok nmX8 hown hw hxL hxo rfl 3 (by decide) u_26 rfl rfl (by decide +kernel) rfl rfl (by first | omega | decide) dX8_roots_13 (fun H locs hw => ?_)
    obtain ⟨fs5, hz5⟩ : ∃ zz9, zz9 = fs.set 3 (.int (nI 1)) := ⟨_, rfl⟩
    rw [← hz5] at hw
    have hlen5 : fs5.length = 18 := by rw [hz5, List.length_set]; exact hfl
    have g5_1 : fs5[1]? = some (.ref ca) := by rw [hz5, List.getElem?_set_ne (by decide)]; exact hfs1
    have g5_2 : fs5[2]? = some (.int (nI 0)) := by rw [hz5, List.getElem?_set_ne (by decide)]; exact hfs2
    have g5_4 : fs5[4]? = some (.int (nI 0)) := by rw [hz5, List.getElem?_set_ne (by decide)]; exact hfs4
    have g5_7 : fs5[7]? = some (.ref ww) := by rw [hz5, List.getElem?_set_ne (by decide)]; exact hfs7
    have g5_8 : fs5[8]? = some (.ref dd) := by rw [hz5, List.getElem?_set_ne (by decide)]; exact hfs8
    have g5_3 : fs5[3]? = some (.int (nI 1)) := by rw [hz5, List.getElem?_set_self (by omega)]
    obtain ⟨f6, hf6⟩ : ∃ g, g = va_up f x (eO 8 fs5) := ⟨_, rfl⟩
    rw [← hf6] at hw
    have h6_x : f6 x = eO 8 fs5 := by rw [hf6]; exact va_up_eq _ _ _
    have h6_ww : f6 ww = eJ G 1440 wr := by rw [hf6, va_up_ne _ _ n_ww_x]; exact hww
    have h6_dd : f6 dd = eI G 60 dr := by rw [hf6, va_up_ne _ _ n_dd_x]; exact hdd
    have h6_ca : f6 ca = eI G 880 (fun _ => 0) := by rw [hf6, va_up_ne _ _ n_ca_x]; exact hca
    have ho6 : ∀ q : Nat, q ≠ x → q ≠ ww → q ≠ dd → q ≠ ca → f6 q = f q := fun q hq0 hq1 hq2 hq3 => (show f6 q = f q from by rw [hf6]; exact va_up_ne _ _ hq0).trans (ho0 q hq0 hq1 hq2 hq3)
    refine lv_aload_n hx hb dX8_roots_16 rfl (lv_at hl 0 rfl) ?_
    refine w_get (C := RX8) (T := TX8) (N := 18) (ci := 8) (ref := "LiftFactorsModel") (v := .int (nI 1)) hx hb hts inX8_u hown hw hxL h6_x rfl 3 (by decide) u_26 rfl g5_3 dX8_roots_17 ?_
    refine lv_if_eq (tgt := 25) hx hb dX8_roots_20 (by decide) (fun h => absurd h (by decide)) (fun _ => ?_)
    refine lv_iconst (v := nI 0) hx hb dX8_roots_23 (by decide) ?_
    exact w_iret (lf := fun g => (L, g)) hx hb hr hlocks f6 hw (⟨(fun h => Bool.noConfusion h), ⟨fs5, h6_x, g5_3⟩, ho6⟩) dX8_roots_24
set_option maxRecDepth 100000 in
set_option maxHeartbeats 4000000 in
theorem z_X8_squareFree (l : Launch) (G : gG) (L : List Nat) (f : Nat → va_E) (sz : Nat) (x ww dd ca : Nat) (hz : mZ G L f x ww dd ca) (v : Int32) :
    Met l yX8_squareFree (uW yX8_squareFree cX8_squareFree 2 (some .boolean)) { frames := 2, cells := 0, slots := 0, locals := 46 } (wIn G [.ref x, .int v] L f sz) (va_Qi (fun (r9 : Int32) (g : Nat → va_E) => (inB v 80 = true → r9 = nI 0) ∧ mO f g x ww dd ca (if inB v 80 then nI 0 else nI 1)) (fun g => wAt G (wA L f sz) L g) (wA L f sz)) 0 0 (wA L f sz) := by
  refine wEnter (by decide) (Nat.le_of_ble_eq_true rfl) ?_
  intro p e s m below meth c ls cx hinit hl hsz hw
  obtain ⟨hx, hb, hr, hml, hown, hts, hlocks⟩ := id cx
  have hown : s.vm.findClass RX8 = some m.cls := hown
  have hl : lv_has ls 2 [(0, .ref x), (1, .int v)] := hl
  generalize wA L f sz = A at hw ⊢
  obtain ⟨fs, wr, dr, hxL, hxo, hfl, hfs1, hfs2, hfs3, hfs4, hfs7, hfs8, hwL, hww, hdL, hdd, hcL, hca, hcd⟩ := hz
  have n_x_ww : x ≠ ww := ne_E hww hxo (by simp)
  have n_x_dd : x ≠ dd := ne_E hdd hxo (by simp)
  have n_x_ca : x ≠ ca := ne_E hca hxo (by simp)
  have n_ww_x : ww ≠ x := ne_E hxo hww (by simp)
  have n_ww_dd : ww ≠ dd := ne_E hdd hww (by simp)
  have n_ww_ca : ww ≠ ca := ne_E hca hww (by simp)
  have n_dd_x : dd ≠ x := ne_E hxo hdd (by simp)
  have n_dd_ww : dd ≠ ww := ne_E hww hdd (by simp)
  have n_dd_ca : dd ≠ ca := hcd
  have n_ca_x : ca ≠ x := ne_E hxo hca (by simp)
  have n_ca_ww : ca ≠ ww := ne_E hww hca (by simp)
  have n_ca_dd : ca ≠ dd := (hcd).symm
  have ho0 : ∀ q : Nat, q ≠ x → q ≠ ww → q ≠ dd → q ≠ ca → f q = f q := fun q _ _ _ _ => rfl
  refine lv_aload_n hx hb dX8_squareFree_0 rfl (lv_at hl 0 rfl) ?_
  refine lv_iload_n hx hb dX8_squareFree_1 rfl (lv_at hl 1 rfl) ?_
  refine w_callSi (lf := fun g => (L, g)) (As := [.int v]) (rest := [.ref x]) cx.fix hw (c_X8_isPoly l G L f _ v) (w_cS 1 hts u_41 u_42 u_43 u_44 rfl rfl (by decide) (by decide)) hl.1 rfl (lv_room (Nat.le_of_ble_eq_true rfl)) dX8_squareFree_2 (by decide) (fun r9 u H locs hp hw => ?_)
  rcases hp with ⟨⟨e9, j, hj, ejj⟩ | ⟨e9, hno⟩, e10⟩
  · skip
    have hw : wH G A s.heap s L u H locs := hw
    rw [e10] at hw
    subst e9
    subst ejj
    rw [inB_t (by decide) hj]
    refine lv_if_eq (tgt := 12) hx hb dX8_squareFree_5 (by decide) (fun h => absurd h (by decide)) (fun _ => ?_)
    refine lv_iconst (v := nI 0) hx hb dX8_squareFree_8 (by decide) ?_
    refine lv_goto (tgt := 13) hx hb dX8_squareFree_9 (by decide) ?_
    refine w_put (C := RX8) (T := TX8) (N := 18) (ci := 8) (ref := "LiftFactorsModel") (ty := .int) (v := .int (nI 0)) hx hb hts inX8_u tyX8 tyX8_ok nmX8 hown hw hxL hxo rfl 3 (by decide) u_26 rfl rfl (by decide +kernel) rfl rfl (by first | omega | decide) dX8_squareFree_13 (fun H locs hw => ?_)
    obtain ⟨fs1, hz1⟩ : ∃ zz9, zz9 = fs.set 3 (.int (nI 0)) := ⟨_, rfl⟩
    rw [← hz1] at hw
    have hlen1 : fs1.length = 18 := by rw [hz1, List.length_set]; exact hfl
    have g1_1 : fs1[1]? = some (.ref ca) := by rw [hz1, List.getElem?_set_ne (by decide)]; exact hfs1
    have g1_2 : fs1[2]? = some (.int (nI 0)) := by rw [hz1, List.getElem?_set_ne (by decide)]; exact hfs2
    have g1_4 : fs1[4]? = some (.int (nI 0)) := by rw [hz1, List.getElem?_set_ne (by decide)]; exact hfs4
    have g1_7 : fs1[7]? = some (.ref ww) := by rw [hz1, List.getElem?_set_ne (by decide)]; exact hfs7
    have g1_8 : fs1[8]? = some (.ref dd) := by rw [hz1, List.getElem?_set_ne (by decide)]; exact hfs8
    have g1_3 : fs1[3]? = some (.int (nI 0)) := by rw [hz1, List.getElem?_set_self (by omega)]
    obtain ⟨f2, hf2⟩ : ∃ g, g = va_up f x (eO 8 fs1) := ⟨_, rfl⟩
    rw [← hf2] at hw
    have h2_x : f2 x = eO 8 fs1 := by rw [hf2]; exact va_up_eq _ _ _
    have h2_ww : f2 ww = eJ G 1440 wr := by rw [hf2, va_up_ne _ _ n_ww_x]; exact hww
    have h2_dd : f2 dd = eI G 60 dr := by rw [hf2, va_up_ne _ _ n_dd_x]; exact hdd
    have h2_ca : f2 ca = eI G 880 (fun _ => 0) := by rw [hf2, va_up_ne _ _ n_ca_x]; exact hca
    have ho2 : ∀ q : Nat, q ≠ x → q ≠ ww → q ≠ dd → q ≠ ca → f2 q = f q := fun q hq0 hq1 hq2 hq3 => (show f2 q = f q from by rw [hf2]; exact va_up_ne _ _ hq0).trans (ho0 q hq0 hq1 hq2 hq3)
    refine lv_aload_n hx hb dX8_squareFree_16 rfl (lv_at hl 0 rfl) ?_
    refine w_get (C := RX8) (T := TX8) (N := 18) (ci := 8) (ref := "LiftFactorsModel") (v := .int (nI 0)) hx hb hts inX8_u hown hw hxL h2_x rfl 3 (by decide) u_26 rfl g1_3 dX8_squareFree_17 ?_
    refine lv_if_eq (tgt := 25) hx hb dX8_squareFree_20 (by decide) (fun _ => ?_) (fun h => absurd (by decide) h)
    refine lv_aload_n hx hb dX8_squareFree_25 rfl (lv_at hl 0 rfl) ?_
    refine lv_iload_n hx hb dX8_squareFree_26 rfl (lv_at hl 1 rfl) ?_
    refine lv_iconst (v := nI 0) hx hb dX8_squareFree_27 (by decide) ?_
    refine w_callVv (lf := fun g => (L, g)) (As := [.int (nI j), .int (nI 0)]) (rest := []) cx.fix hw (c_X8_load l G L f2 _ x ww dd ca 0 j fs1 wr dr (fun _ => 0) hxL h2_x g1_1 g1_7 g1_8 hwL h2_ww hdL h2_dd hcL h2_ca (by decide) hj) hxL h2_x rfl rfl (w_cV 2 hts u_45 u_46 u_47 u_48 u_49 rfl rfl (by decide) (by decide)) hl.1 rfl (lv_room (Nat.le_of_ble_eq_true rfl)) dX8_squareFree_28 (by decide) (fun u H locs hp hw => ?_)
    have hw : wH G A s.heap s L u H locs := hw
    rw [hp] at hw
    obtain ⟨f3, hf3⟩ : ∃ g, g = va_up f2 ww (eJ G 1440 (updB wr (24 * 0) (fun k => ((fun _ => 0 : Nat → Int32) (11 * j + k)).toInt64) 11)) := ⟨_, rfl⟩
    rw [← hf3] at hw
    have h3_x : f3 x = eO 8 fs1 := by rw [hf3, va_up_ne _ _ n_x_ww]; exact h2_x
    have h3_ww : f3 ww = eJ G 1440 (updB wr (24 * 0) (fun k => ((fun _ => 0 : Nat → Int32) (11 * j + k)).toInt64) 11) := by rw [hf3]; exact va_up_eq _ _ _
    have h3_dd : f3 dd = eI G 60 dr := by rw [hf3, va_up_ne _ _ n_dd_ww]; exact h2_dd
    have h3_ca : f3 ca = eI G 880 (fun _ => 0) := by rw [hf3, va_up_ne _ _ n_ca_ww]; exact h2_ca
    have ho3 : ∀ q : Nat, q ≠ x → q ≠ ww → q ≠ dd → q ≠ ca → f3 q = f q := fun q hq0 hq1 hq2 hq3 => (show f3 q = f2 q from by rw [hf3]; exact va_up_ne _ _ hq1).trans (ho2 q hq0 hq1 hq2 hq3)
    rw [show dgp (fun k => ((fun _ => 0 : Nat → Int32) (11 * j + k)).toInt64) 11 = 0 from dgp_0 (fun _ _ => rfl)] at hw
    obtain ⟨f4, hf4⟩ : ∃ g, g = va_up f3 dd (eI G 60 (upd dr 0 (nI 0 - nI 1))) := ⟨_, rfl⟩
    rw [← hf4] at hw
    have h4_x : f4 x = eO 8 fs1 := by rw [hf4, va_up_ne _ _ n_x_dd]; exact h3_x
    have h4_ww : f4 ww = eJ G 1440 (updB wr (24 * 0) (fun k => ((fun _ => 0 : Nat → Int32) (11 * j + k)).toInt64) 11) := by rw [hf4, va_up_ne _ _ n_ww_dd]; exact h3_ww
    have h4_dd : f4 dd = eI G 60 (upd dr 0 (nI 0 - nI 1)) := by rw [hf4]; exact va_up_eq _ _ _
    have h4_ca : f4 ca = eI G 880 (fun _ => 0) := by rw [hf4, va_up_ne _ _ n_ca_dd]; exact h3_ca
    have ho4 : ∀ q : Nat, q ≠ x → q ≠ ww → q ≠ dd → q ≠ ca → f4 q = f q := fun q hq0 hq1 hq2 hq3 => (show f4 q = f3 q from by rw [hf4]; exact va_up_ne _ _ hq2).trans (ho3 q hq0 hq1 hq2 hq3)
    refine lv_aload_n hx hb dX8_squareFree_31 rfl (lv_at hl 0 rfl) ?_
    refine w_get (C := RX8) (T := TX8) (N := 18) (ci := 8) (ref := "LiftFactorsModel") (v := .ref dd) hx hb hts inX8_u hown hw hxL h4_x rfl 8 (by decide) u_28 rfl g1_8 dX8_squareFree_32 ?_
    refine lv_iconst (v := nI 0) hx hb dX8_squareFree_35 (by decide) ?_
    refine n_iald hx hb hw hdL h4_dd 0 (by omega) (by omega) dX8_squareFree_36 ?_
    refine w_ti (show (upd dr 0 (nI 0 - nI 1)) 0 = nI 0 - nI 1 from by simp [upd]) ?_
    refine lv_iconst (v := nI 1) hx hb dX8_squareFree_37 (by decide) ?_
    refine lv_icmp_ge (tgt := 56) hx hb dX8_squareFree_38 (by decide) (fun h => absurd h (by decide)) (fun _ => ?_)
    refine lv_aload_n hx hb dX8_squareFree_41 rfl (lv_at hl 0 rfl) ?_
    refine w_get (C := RX8) (T := TX8) (N := 18) (ci := 8) (ref := "LiftFactorsModel") (v := .ref dd) hx hb hts inX8_u hown hw hxL h4_x rfl 8 (by decide) u_28 rfl g1_8 dX8_squareFree_42 ?_
    refine lv_iconst (v := nI 0) hx hb dX8_squareFree_45 (by decide) ?_
    refine n_iald hx hb hw hdL h4_dd 0 (by omega) (by omega) dX8_squareFree_46 ?_
    refine w_ti (show (upd dr 0 (nI 0 - nI 1)) 0 = nI 0 - nI 1 from by simp [upd]) ?_
    refine lv_if_ne (tgt := 54) hx hb dX8_squareFree_47 (by decide) (fun _ => ?_) (fun h => absurd h (by decide))
    refine lv_iconst (v := nI 0) hx hb dX8_squareFree_54 (by decide) ?_
    exact w_zret (lf := fun g => (L, g)) hx hb hr hlocks (by first | rfl | decide) f4 hw (⟨(fun _ => rfl), ⟨fs1, h4_x, g1_3⟩, ho4⟩) dX8_squareFree_55
  · skip
    have hw : wH G A s.heap s L u H locs := hw
    rw [e10] at hw
    subst e9
    rw [inB_f (by decide) hno]
    refine lv_if_eq (tgt := 12) hx hb dX8_squareFree_5 (by decide) (fun _ => ?_) (fun h => absurd (by decide) h)
    refine lv_iconst (v := nI 1) hx hb dX8_squareFree_12 (by decide) ?_
    refine w_put (C := RX8) (T := TX8) (N := 18) (ci := 8) (ref := "LiftFactorsModel") (ty := .int) (v := .int (nI 1)) hx hb hts inX8_u tyX8 tyX8_ok nmX8 hown hw hxL hxo rfl 3 (by decide) u_26 rfl rfl (by decide +kernel) rfl rfl (by first | omega | decide) dX8_squareFree_13 (fun H locs hw => ?_)
    obtain ⟨fs5, hz5⟩ : ∃ zz9, zz9 = fs.set 3 (.int (nI 1)) := ⟨_, rfl⟩
    rw [← hz5] at hw
    have hlen5 : fs5.length = 18 := by rw [hz5, List.length_set]; exact hfl
    have g5_1 : fs5[1]? = some (.ref ca) := by rw [hz5, List.getElem?_set_ne (by decide)]; exact hfs1
    have g5_2 : fs5[2]? = some (.int (nI 0)) := by rw [hz5, List.getElem?_set_ne (by decide)]; exact hfs2
    have g5_4 : fs5[4]? = some (.int (nI 0)) := by rw [hz5, List.getElem?_set_ne (by decide)]; exact hfs4
    have g5_7 : fs5[7]? = some (.ref ww) := by rw [hz5, List.getElem?_set_ne (by decide)]; exact hfs7
    have g5_8 : fs5[8]? = some (.ref dd) := by rw [hz5, List.getElem?_set_ne (by decide)]; exact hfs8
    have g5_3 : fs5[3]? = some (.int (nI 1)) := by rw [hz5, List.getElem?_set_self (by omega)]
    obtain ⟨f6, hf6⟩ : ∃ g, g = va_up f x (eO 8 fs5) := ⟨_, rfl⟩
    rw [← hf6] at hw
    have h6_x : f6 x = eO 8 fs5 := by rw [hf6]; exact va_up_eq _ _ _
    have h6_ww : f6 ww = eJ G 1440 wr := by rw [hf6, va_up_ne _ _ n_ww_x]; exact hww
    have h6_dd : f6 dd = eI G 60 dr := by rw [hf6, va_up_ne _ _ n_dd_x]; exact hdd
    have h6_ca : f6 ca = eI G 880 (fun _ => 0) := by rw [hf6, va_up_ne _ _ n_ca_x]; exact hca
    have ho6 : ∀ q : Nat, q ≠ x → q ≠ ww → q ≠ dd → q ≠ ca → f6 q = f q := fun q hq0 hq1 hq2 hq3 => (show f6 q = f q from by rw [hf6]; exact va_up_ne _ _ hq0).trans (ho0 q hq0 hq1 hq2 hq3)
    refine lv_aload_n hx hb dX8_squareFree_16 rfl (lv_at hl 0 rfl) ?_
    refine w_get (C := RX8) (T := TX8) (N := 18) (ci := 8) (ref := "LiftFactorsModel") (v := .int (nI 1)) hx hb hts inX8_u hown hw hxL h6_x rfl 3 (by decide) u_26 rfl g5_3 dX8_squareFree_17 ?_
    refine lv_if_eq (tgt := 25) hx hb dX8_squareFree_20 (by decide) (fun h => absurd h (by decide)) (fun _ => ?_)
    refine lv_iconst (v := nI 0) hx hb dX8_squareFree_23 (by decide) ?_
    exact w_zret (lf := fun g => (L, g)) hx hb hr hlocks (by first | rfl | decide) f6 hw (⟨(fun h => Bool.noConfusion h), ⟨fs5, h6_x, g5_3⟩, ho6⟩) dX8_squareFree_24
set_option maxRecDepth 100000 in
set_option maxHeartbeats 4000000 in
theorem z_X8_root (l : Launch) (G : gG) (L : List Nat) (f : Nat → va_E) (sz : Nat) (x ww dd ca : Nat) (hz : mZ G L f x ww dd ca) (v k q : Int32) :
    Met l yX8_root (uW yX8_root cX8_root 4 (some .int)) { frames := 2, cells := 0, slots := 0, locals := 46 } (wIn G [.ref x, .int v, .int k, .int q] L f sz) (va_Qi (fun (r9 : Int32) (g : Nat → va_E) => mO f g x ww dd ca (if inB v 80 then nI 2 else nI 1)) (fun g => wAt G (wA L f sz) L g) (wA L f sz)) 0 0 (wA L f sz) := by
  refine wEnter (by decide) (Nat.le_of_ble_eq_true rfl) ?_
  intro p e s m below meth c ls cx hinit hl hsz hw
  obtain ⟨hx, hb, hr, hml, hown, hts, hlocks⟩ := id cx
  have hown : s.vm.findClass RX8 = some m.cls := hown
  have hl : lv_has ls 4 [(0, .ref x), (1, .int v), (2, .int k), (3, .int q)] := hl
  generalize wA L f sz = A at hw ⊢
  obtain ⟨fs, wr, dr, hxL, hxo, hfl, hfs1, hfs2, hfs3, hfs4, hfs7, hfs8, hwL, hww, hdL, hdd, hcL, hca, hcd⟩ := hz
  have n_x_ww : x ≠ ww := ne_E hww hxo (by simp)
  have n_x_dd : x ≠ dd := ne_E hdd hxo (by simp)
  have n_x_ca : x ≠ ca := ne_E hca hxo (by simp)
  have n_ww_x : ww ≠ x := ne_E hxo hww (by simp)
  have n_ww_dd : ww ≠ dd := ne_E hdd hww (by simp)
  have n_ww_ca : ww ≠ ca := ne_E hca hww (by simp)
  have n_dd_x : dd ≠ x := ne_E hxo hdd (by simp)
  have n_dd_ww : dd ≠ ww := ne_E hww hdd (by simp)
  have n_dd_ca : dd ≠ ca := hcd
  have n_ca_x : ca ≠ x := ne_E hxo hca (by simp)
  have n_ca_ww : ca ≠ ww := ne_E hww hca (by simp)
  have n_ca_dd : ca ≠ dd := (hcd).symm
  have ho0 : ∀ q : Nat, q ≠ x → q ≠ ww → q ≠ dd → q ≠ ca → f q = f q := fun q _ _ _ _ => rfl
  refine lv_aload_n hx hb dX8_root_0 rfl (lv_at hl 0 rfl) ?_
  refine lv_iload_n hx hb dX8_root_1 rfl (lv_at hl 1 rfl) ?_
  refine w_callSi (lf := fun g => (L, g)) (As := [.int v]) (rest := [.ref x]) cx.fix hw (c_X8_isPoly l G L f _ v) (w_cS 1 hts u_41 u_42 u_43 u_44 rfl rfl (by decide) (by decide)) hl.1 rfl (lv_room (Nat.le_of_ble_eq_true rfl)) dX8_root_2 (by decide) (fun r9 u H locs hp hw => ?_)
  rcases hp with ⟨⟨e9, j, hj, ejj⟩ | ⟨e9, hno⟩, e10⟩
  · skip
    have hw : wH G A s.heap s L u H locs := hw
    rw [e10] at hw
    subst e9
    subst ejj
    rw [inB_t (by decide) hj]
    refine lv_if_eq (tgt := 12) hx hb dX8_root_5 (by decide) (fun h => absurd h (by decide)) (fun _ => ?_)
    refine lv_iconst (v := nI 0) hx hb dX8_root_8 (by decide) ?_
    refine lv_goto (tgt := 13) hx hb dX8_root_9 (by decide) ?_
    refine w_put (C := RX8) (T := TX8) (N := 18) (ci := 8) (ref := "LiftFactorsModel") (ty := .int) (v := .int (nI 0)) hx hb hts inX8_u tyX8 tyX8_ok nmX8 hown hw hxL hxo rfl 3 (by decide) u_26 rfl rfl (by decide +kernel) rfl rfl (by first | omega | decide) dX8_root_13 (fun H locs hw => ?_)
    obtain ⟨fs1, hz1⟩ : ∃ zz9, zz9 = fs.set 3 (.int (nI 0)) := ⟨_, rfl⟩
    rw [← hz1] at hw
    have hlen1 : fs1.length = 18 := by rw [hz1, List.length_set]; exact hfl
    have g1_1 : fs1[1]? = some (.ref ca) := by rw [hz1, List.getElem?_set_ne (by decide)]; exact hfs1
    have g1_2 : fs1[2]? = some (.int (nI 0)) := by rw [hz1, List.getElem?_set_ne (by decide)]; exact hfs2
    have g1_4 : fs1[4]? = some (.int (nI 0)) := by rw [hz1, List.getElem?_set_ne (by decide)]; exact hfs4
    have g1_7 : fs1[7]? = some (.ref ww) := by rw [hz1, List.getElem?_set_ne (by decide)]; exact hfs7
    have g1_8 : fs1[8]? = some (.ref dd) := by rw [hz1, List.getElem?_set_ne (by decide)]; exact hfs8
    have g1_3 : fs1[3]? = some (.int (nI 0)) := by rw [hz1, List.getElem?_set_self (by omega)]
    obtain ⟨f2, hf2⟩ : ∃ g, g = va_up f x (eO 8 fs1) := ⟨_, rfl⟩
    rw [← hf2] at hw
    have h2_x : f2 x = eO 8 fs1 := by rw [hf2]; exact va_up_eq _ _ _
    have h2_ww : f2 ww = eJ G 1440 wr := by rw [hf2, va_up_ne _ _ n_ww_x]; exact hww
    have h2_dd : f2 dd = eI G 60 dr := by rw [hf2, va_up_ne _ _ n_dd_x]; exact hdd
    have h2_ca : f2 ca = eI G 880 (fun _ => 0) := by rw [hf2, va_up_ne _ _ n_ca_x]; exact hca
    have ho2 : ∀ q : Nat, q ≠ x → q ≠ ww → q ≠ dd → q ≠ ca → f2 q = f q := fun q hq0 hq1 hq2 hq3 => (show f2 q = f q from by rw [hf2]; exact va_up_ne _ _ hq0).trans (ho0 q hq0 hq1 hq2 hq3)
    refine lv_aload_n hx hb dX8_root_16 rfl (lv_at hl 0 rfl) ?_
    refine w_get (C := RX8) (T := TX8) (N := 18) (ci := 8) (ref := "LiftFactorsModel") (v := .int (nI 0)) hx hb hts inX8_u hown hw hxL h2_x rfl 3 (by decide) u_26 rfl g1_3 dX8_root_17 ?_
    refine lv_if_eq (tgt := 25) hx hb dX8_root_20 (by decide) (fun _ => ?_) (fun h => absurd (by decide) h)
    refine lv_aload_n hx hb dX8_root_25 rfl (lv_at hl 0 rfl) ?_
    refine lv_iload_n hx hb dX8_root_26 rfl (lv_at hl 1 rfl) ?_
    refine lv_iconst (v := nI 0) hx hb dX8_root_27 (by decide) ?_
    refine w_callVv (lf := fun g => (L, g)) (As := [.int (nI j), .int (nI 0)]) (rest := []) cx.fix hw (c_X8_load l G L f2 _ x ww dd ca 0 j fs1 wr dr (fun _ => 0) hxL h2_x g1_1 g1_7 g1_8 hwL h2_ww hdL h2_dd hcL h2_ca (by decide) hj) hxL h2_x rfl rfl (w_cV 2 hts u_45 u_46 u_47 u_48 u_49 rfl rfl (by decide) (by decide)) hl.1 rfl (lv_room (Nat.le_of_ble_eq_true rfl)) dX8_root_28 (by decide) (fun u H locs hp hw => ?_)
    have hw : wH G A s.heap s L u H locs := hw
    rw [hp] at hw
    obtain ⟨f3, hf3⟩ : ∃ g, g = va_up f2 ww (eJ G 1440 (updB wr (24 * 0) (fun k => ((fun _ => 0 : Nat → Int32) (11 * j + k)).toInt64) 11)) := ⟨_, rfl⟩
    rw [← hf3] at hw
    have h3_x : f3 x = eO 8 fs1 := by rw [hf3, va_up_ne _ _ n_x_ww]; exact h2_x
    have h3_ww : f3 ww = eJ G 1440 (updB wr (24 * 0) (fun k => ((fun _ => 0 : Nat → Int32) (11 * j + k)).toInt64) 11) := by rw [hf3]; exact va_up_eq _ _ _
    have h3_dd : f3 dd = eI G 60 dr := by rw [hf3, va_up_ne _ _ n_dd_ww]; exact h2_dd
    have h3_ca : f3 ca = eI G 880 (fun _ => 0) := by rw [hf3, va_up_ne _ _ n_ca_ww]; exact h2_ca
    have ho3 : ∀ q : Nat, q ≠ x → q ≠ ww → q ≠ dd → q ≠ ca → f3 q = f q := fun q hq0 hq1 hq2 hq3 => (show f3 q = f2 q from by rw [hf3]; exact va_up_ne _ _ hq1).trans (ho2 q hq0 hq1 hq2 hq3)
    rw [show dgp (fun k => ((fun _ => 0 : Nat → Int32) (11 * j + k)).toInt64) 11 = 0 from dgp_0 (fun _ _ => rfl)] at hw
    obtain ⟨f4, hf4⟩ : ∃ g, g = va_up f3 dd (eI G 60 (upd dr 0 (nI 0 - nI 1))) := ⟨_, rfl⟩
    rw [← hf4] at hw
    have h4_x : f4 x = eO 8 fs1 := by rw [hf4, va_up_ne _ _ n_x_dd]; exact h3_x
    have h4_ww : f4 ww = eJ G 1440 (updB wr (24 * 0) (fun k => ((fun _ => 0 : Nat → Int32) (11 * j + k)).toInt64) 11) := by rw [hf4, va_up_ne _ _ n_ww_dd]; exact h3_ww
    have h4_dd : f4 dd = eI G 60 (upd dr 0 (nI 0 - nI 1)) := by rw [hf4]; exact va_up_eq _ _ _
    have h4_ca : f4 ca = eI G 880 (fun _ => 0) := by rw [hf4, va_up_ne _ _ n_ca_dd]; exact h3_ca
    have ho4 : ∀ q : Nat, q ≠ x → q ≠ ww → q ≠ dd → q ≠ ca → f4 q = f q := fun q hq0 hq1 hq2 hq3 => (show f4 q = f3 q from by rw [hf4]; exact va_up_ne _ _ hq2).trans (ho3 q hq0 hq1 hq2 hq3)
    refine lv_aload_n hx hb dX8_root_31 rfl (lv_at hl 0 rfl) ?_
    refine lv_iconst (v := nI 0) hx hb dX8_root_32 (by decide) ?_
    refine w_put (C := RX8) (T := TX8) (N := 18) (ci := 8) (ref := "LiftFactorsModel") (ty := .int) (v := .int (nI 0)) hx hb hts inX8_u tyX8 tyX8_ok nmX8 hown hw hxL h4_x rfl 15 (by decide) u_55 rfl rfl (by decide +kernel) rfl rfl (by first | omega | decide) dX8_root_33 (fun H locs hw => ?_)
    obtain ⟨fs5, hz5⟩ : ∃ zz9, zz9 = fs1.set 15 (.int (nI 0)) := ⟨_, rfl⟩
    rw [← hz5] at hw
    have hlen5 : fs5.length = 18 := by rw [hz5, List.length_set]; exact hlen1
    have g5_1 : fs5[1]? = some (.ref ca) := by rw [hz5, List.getElem?_set_ne (by decide)]; exact g1_1
    have g5_2 : fs5[2]? = some (.int (nI 0)) := by rw [hz5, List.getElem?_set_ne (by decide)]; exact g1_2
    have g5_4 : fs5[4]? = some (.int (nI 0)) := by rw [hz5, List.getElem?_set_ne (by decide)]; exact g1_4
    have g5_7 : fs5[7]? = some (.ref ww) := by rw [hz5, List.getElem?_set_ne (by decide)]; exact g1_7
    have g5_8 : fs5[8]? = some (.ref dd) := by rw [hz5, List.getElem?_set_ne (by decide)]; exact g1_8
    have g5_3 : fs5[3]? = some (.int (nI 0)) := by rw [hz5, List.getElem?_set_ne (by decide)]; exact g1_3
    have g5_15 : fs5[15]? = some (.int (nI 0)) := by rw [hz5, List.getElem?_set_self (by omega)]
    obtain ⟨f6, hf6⟩ : ∃ g, g = va_up f4 x (eO 8 fs5) := ⟨_, rfl⟩
    rw [← hf6] at hw
    have h6_x : f6 x = eO 8 fs5 := by rw [hf6]; exact va_up_eq _ _ _
    have h6_ww : f6 ww = eJ G 1440 (updB wr (24 * 0) (fun k => ((fun _ => 0 : Nat → Int32) (11 * j + k)).toInt64) 11) := by rw [hf6, va_up_ne _ _ n_ww_x]; exact h4_ww
    have h6_dd : f6 dd = eI G 60 (upd dr 0 (nI 0 - nI 1)) := by rw [hf6, va_up_ne _ _ n_dd_x]; exact h4_dd
    have h6_ca : f6 ca = eI G 880 (fun _ => 0) := by rw [hf6, va_up_ne _ _ n_ca_x]; exact h4_ca
    have ho6 : ∀ q : Nat, q ≠ x → q ≠ ww → q ≠ dd → q ≠ ca → f6 q = f q := fun q hq0 hq1 hq2 hq3 => (show f6 q = f4 q from by rw [hf6]; exact va_up_ne _ _ hq0).trans (ho4 q hq0 hq1 hq2 hq3)
    refine lv_aload_n hx hb dX8_root_36 rfl (lv_at hl 0 rfl) ?_
    refine w_get (C := RX8) (T := TX8) (N := 18) (ci := 8) (ref := "LiftFactorsModel") (v := .ref dd) hx hb hts inX8_u hown hw hxL h6_x rfl 8 (by decide) u_28 rfl g5_8 dX8_root_37 ?_
    refine lv_iconst (v := nI 0) hx hb dX8_root_40 (by decide) ?_
    refine n_iald hx hb hw hdL h6_dd 0 (by omega) (by omega) dX8_root_41 ?_
    refine w_ti (show (upd dr 0 (nI 0 - nI 1)) 0 = nI 0 - nI 1 from by simp [upd]) ?_
    refine lv_if_lt (tgt := 49) hx hb dX8_root_42 (by decide) (fun _ => ?_) (fun h => absurd (by decide) h)
    refine lv_aload_n hx hb dX8_root_49 rfl (lv_at hl 0 rfl) ?_
    refine lv_iload_n hx hb dX8_root_50 rfl (lv_at hl 2 rfl) ?_
    refine lv_if_lt (tgt := 71) hx hb dX8_root_51 (by decide) (fun hk => ?_) (fun hk => ?_)
    · skip
      refine lv_iconst (v := nI 2) hx hb dX8_root_71 (by decide) ?_
      refine lv_goto (tgt := 76) hx hb dX8_root_72 (by decide) ?_
      refine w_put (C := RX8) (T := TX8) (N := 18) (ci := 8) (ref := "LiftFactorsModel") (ty := .int) (v := .int (nI 2)) hx hb hts inX8_u tyX8 tyX8_ok nmX8 hown hw hxL h6_x rfl 3 (by decide) u_26 rfl rfl (by decide +kernel) rfl rfl (by first | omega | decide) dX8_root_76 (fun H locs hw => ?_)
      obtain ⟨fs7, hz7⟩ : ∃ zz9, zz9 = fs5.set 3 (.int (nI 2)) := ⟨_, rfl⟩
      rw [← hz7] at hw
      have hlen7 : fs7.length = 18 := by rw [hz7, List.length_set]; exact hlen5
      have g7_1 : fs7[1]? = some (.ref ca) := by rw [hz7, List.getElem?_set_ne (by decide)]; exact g5_1
      have g7_2 : fs7[2]? = some (.int (nI 0)) := by rw [hz7, List.getElem?_set_ne (by decide)]; exact g5_2
      have g7_4 : fs7[4]? = some (.int (nI 0)) := by rw [hz7, List.getElem?_set_ne (by decide)]; exact g5_4
      have g7_7 : fs7[7]? = some (.ref ww) := by rw [hz7, List.getElem?_set_ne (by decide)]; exact g5_7
      have g7_8 : fs7[8]? = some (.ref dd) := by rw [hz7, List.getElem?_set_ne (by decide)]; exact g5_8
      have g7_15 : fs7[15]? = some (.int (nI 0)) := by rw [hz7, List.getElem?_set_ne (by decide)]; exact g5_15
      have g7_3 : fs7[3]? = some (.int (nI 2)) := by rw [hz7, List.getElem?_set_self (by omega)]
      obtain ⟨f8, hf8⟩ : ∃ g, g = va_up f6 x (eO 8 fs7) := ⟨_, rfl⟩
      rw [← hf8] at hw
      have h8_x : f8 x = eO 8 fs7 := by rw [hf8]; exact va_up_eq _ _ _
      have h8_ww : f8 ww = eJ G 1440 (updB wr (24 * 0) (fun k => ((fun _ => 0 : Nat → Int32) (11 * j + k)).toInt64) 11) := by rw [hf8, va_up_ne _ _ n_ww_x]; exact h6_ww
      have h8_dd : f8 dd = eI G 60 (upd dr 0 (nI 0 - nI 1)) := by rw [hf8, va_up_ne _ _ n_dd_x]; exact h6_dd
      have h8_ca : f8 ca = eI G 880 (fun _ => 0) := by rw [hf8, va_up_ne _ _ n_ca_x]; exact h6_ca
      have ho8 : ∀ q : Nat, q ≠ x → q ≠ ww → q ≠ dd → q ≠ ca → f8 q = f q := fun q hq0 hq1 hq2 hq3 => (show f8 q = f6 q from by rw [hf8]; exact va_up_ne _ _ hq0).trans (ho6 q hq0 hq1 hq2 hq3)
      refine lv_aload_n hx hb dX8_root_79 rfl (lv_at hl 0 rfl) ?_
      refine w_get (C := RX8) (T := TX8) (N := 18) (ci := 8) (ref := "LiftFactorsModel") (v := .int (nI 2)) hx hb hts inX8_u hown hw hxL h8_x rfl 3 (by decide) u_26 rfl g7_3 dX8_root_80 ?_
      refine lv_if_eq (tgt := 88) hx hb dX8_root_83 (by decide) (fun h => absurd h (by decide)) (fun _ => ?_)
      refine lv_iconst (v := nI 0) hx hb dX8_root_86 (by decide) ?_
      exact w_iret (lf := fun g => (L, g)) hx hb hr hlocks f8 hw (⟨⟨fs7, h8_x, g7_3⟩, ho8⟩) dX8_root_87
    · skip
      refine lv_iload_n hx hb dX8_root_54 rfl (lv_at hl 2 rfl) ?_
      refine lv_aload_n hx hb dX8_root_55 rfl (lv_at hl 0 rfl) ?_
      refine w_get (C := RX8) (T := TX8) (N := 18) (ci := 8) (ref := "LiftFactorsModel") (v := .int (nI 0)) hx hb hts inX8_u hown hw hxL h6_x rfl 15 (by decide) u_55 rfl g5_15 dX8_root_56 ?_
      refine lv_icmp_ge (tgt := 71) hx hb dX8_root_59 (by decide) (fun hk2 => ?_) (fun hk2 => ?_)
      · skip
        refine lv_iconst (v := nI 2) hx hb dX8_root_71 (by decide) ?_
        refine lv_goto (tgt := 76) hx hb dX8_root_72 (by decide) ?_
        refine w_put (C := RX8) (T := TX8) (N := 18) (ci := 8) (ref := "LiftFactorsModel") (ty := .int) (v := .int (nI 2)) hx hb hts inX8_u tyX8 tyX8_ok nmX8 hown hw hxL h6_x rfl 3 (by decide) u_26 rfl rfl (by decide +kernel) rfl rfl (by first | omega | decide) dX8_root_76 (fun H locs hw => ?_)
        obtain ⟨fs9, hz9⟩ : ∃ zz9, zz9 = fs5.set 3 (.int (nI 2)) := ⟨_, rfl⟩
        rw [← hz9] at hw
        have hlen9 : fs9.length = 18 := by rw [hz9, List.length_set]; exact hlen5
        have g9_1 : fs9[1]? = some (.ref ca) := by rw [hz9, List.getElem?_set_ne (by decide)]; exact g5_1
        have g9_2 : fs9[2]? = some (.int (nI 0)) := by rw [hz9, List.getElem?_set_ne (by decide)]; exact g5_2
        have g9_4 : fs9[4]? = some (.int (nI 0)) := by rw [hz9, List.getElem?_set_ne (by decide)]; exact g5_4
        have g9_7 : fs9[7]? = some (.ref ww) := by rw [hz9, List.getElem?_set_ne (by decide)]; exact g5_7
        have g9_8 : fs9[8]? = some (.ref dd) := by rw [hz9, List.getElem?_set_ne (by decide)]; exact g5_8
        have g9_15 : fs9[15]? = some (.int (nI 0)) := by rw [hz9, List.getElem?_set_ne (by decide)]; exact g5_15
        have g9_3 : fs9[3]? = some (.int (nI 2)) := by rw [hz9, List.getElem?_set_self (by omega)]
        obtain ⟨f10, hf10⟩ : ∃ g, g = va_up f6 x (eO 8 fs9) := ⟨_, rfl⟩
        rw [← hf10] at hw
        have h10_x : f10 x = eO 8 fs9 := by rw [hf10]; exact va_up_eq _ _ _
        have h10_ww : f10 ww = eJ G 1440 (updB wr (24 * 0) (fun k => ((fun _ => 0 : Nat → Int32) (11 * j + k)).toInt64) 11) := by rw [hf10, va_up_ne _ _ n_ww_x]; exact h6_ww
        have h10_dd : f10 dd = eI G 60 (upd dr 0 (nI 0 - nI 1)) := by rw [hf10, va_up_ne _ _ n_dd_x]; exact h6_dd
        have h10_ca : f10 ca = eI G 880 (fun _ => 0) := by rw [hf10, va_up_ne _ _ n_ca_x]; exact h6_ca
        have ho10 : ∀ q : Nat, q ≠ x → q ≠ ww → q ≠ dd → q ≠ ca → f10 q = f q := fun q hq0 hq1 hq2 hq3 => (show f10 q = f6 q from by rw [hf10]; exact va_up_ne _ _ hq0).trans (ho6 q hq0 hq1 hq2 hq3)
        refine lv_aload_n hx hb dX8_root_79 rfl (lv_at hl 0 rfl) ?_
        refine w_get (C := RX8) (T := TX8) (N := 18) (ci := 8) (ref := "LiftFactorsModel") (v := .int (nI 2)) hx hb hts inX8_u hown hw hxL h10_x rfl 3 (by decide) u_26 rfl g9_3 dX8_root_80 ?_
        refine lv_if_eq (tgt := 88) hx hb dX8_root_83 (by decide) (fun h => absurd h (by decide)) (fun _ => ?_)
        refine lv_iconst (v := nI 0) hx hb dX8_root_86 (by decide) ?_
        exact w_iret (lf := fun g => (L, g)) hx hb hr hlocks f10 hw (⟨⟨fs9, h10_x, g9_3⟩, ho10⟩) dX8_root_87
      · skip
        exact absurd (i32_nlt.mp hk) hk2
  · skip
    have hw : wH G A s.heap s L u H locs := hw
    rw [e10] at hw
    subst e9
    rw [inB_f (by decide) hno]
    refine lv_if_eq (tgt := 12) hx hb dX8_root_5 (by decide) (fun _ => ?_) (fun h => absurd (by decide) h)
    refine lv_iconst (v := nI 1) hx hb dX8_root_12 (by decide) ?_
    refine w_put (C := RX8) (T := TX8) (N := 18) (ci := 8) (ref := "LiftFactorsModel") (ty := .int) (v := .int (nI 1)) hx hb hts inX8_u tyX8 tyX8_ok nmX8 hown hw hxL hxo rfl 3 (by decide) u_26 rfl rfl (by decide +kernel) rfl rfl (by first | omega | decide) dX8_root_13 (fun H locs hw => ?_)
    obtain ⟨fs11, hz11⟩ : ∃ zz9, zz9 = fs.set 3 (.int (nI 1)) := ⟨_, rfl⟩
    rw [← hz11] at hw
    have hlen11 : fs11.length = 18 := by rw [hz11, List.length_set]; exact hfl
    have g11_1 : fs11[1]? = some (.ref ca) := by rw [hz11, List.getElem?_set_ne (by decide)]; exact hfs1
    have g11_2 : fs11[2]? = some (.int (nI 0)) := by rw [hz11, List.getElem?_set_ne (by decide)]; exact hfs2
    have g11_4 : fs11[4]? = some (.int (nI 0)) := by rw [hz11, List.getElem?_set_ne (by decide)]; exact hfs4
    have g11_7 : fs11[7]? = some (.ref ww) := by rw [hz11, List.getElem?_set_ne (by decide)]; exact hfs7
    have g11_8 : fs11[8]? = some (.ref dd) := by rw [hz11, List.getElem?_set_ne (by decide)]; exact hfs8
    have g11_3 : fs11[3]? = some (.int (nI 1)) := by rw [hz11, List.getElem?_set_self (by omega)]
    obtain ⟨f12, hf12⟩ : ∃ g, g = va_up f x (eO 8 fs11) := ⟨_, rfl⟩
    rw [← hf12] at hw
    have h12_x : f12 x = eO 8 fs11 := by rw [hf12]; exact va_up_eq _ _ _
    have h12_ww : f12 ww = eJ G 1440 wr := by rw [hf12, va_up_ne _ _ n_ww_x]; exact hww
    have h12_dd : f12 dd = eI G 60 dr := by rw [hf12, va_up_ne _ _ n_dd_x]; exact hdd
    have h12_ca : f12 ca = eI G 880 (fun _ => 0) := by rw [hf12, va_up_ne _ _ n_ca_x]; exact hca
    have ho12 : ∀ q : Nat, q ≠ x → q ≠ ww → q ≠ dd → q ≠ ca → f12 q = f q := fun q hq0 hq1 hq2 hq3 => (show f12 q = f q from by rw [hf12]; exact va_up_ne _ _ hq0).trans (ho0 q hq0 hq1 hq2 hq3)
    refine lv_aload_n hx hb dX8_root_16 rfl (lv_at hl 0 rfl) ?_
    refine w_get (C := RX8) (T := TX8) (N := 18) (ci := 8) (ref := "LiftFactorsModel") (v := .int (nI 1)) hx hb hts inX8_u hown hw hxL h12_x rfl 3 (by decide) u_26 rfl g11_3 dX8_root_17 ?_
    refine lv_if_eq (tgt := 25) hx hb dX8_root_20 (by decide) (fun h => absurd h (by decide)) (fun _ => ?_)
    refine lv_iconst (v := nI 0) hx hb dX8_root_23 (by decide) ?_
    exact w_iret (lf := fun g => (L, g)) hx hb hr hlocks f12 hw (⟨⟨fs11, h12_x, g11_3⟩, ho12⟩) dX8_root_24
set_option maxRecDepth 100000 in
set_option maxHeartbeats 4000000 in
theorem z_X8_count (l : Launch) (G : gG) (L : List Nat) (f : Nat → va_E) (sz : Nat) (x ww dd ca : Nat) (hz : mZ G L f x ww dd ca)  :
    Met l yX8_count (uW yX8_count cX8_count 1 (some .int)) { frames := 0, cells := 0, slots := 0, locals := 0 } (wIn G [.ref x] L f sz) (va_Qi (fun (r9 : Int32) (g : Nat → va_E) => r9 = nI 0 ∧ mO f g x ww dd ca (nI 0)) (fun g => wAt G (wA L f sz) L g) (wA L f sz)) 0 0 (wA L f sz) := by
  refine wEnter (by decide) (Nat.le_of_ble_eq_true rfl) ?_
  intro p e s m below meth c ls cx hinit hl hsz hw
  obtain ⟨hx, hb, hr, hml, hown, hts, hlocks⟩ := id cx
  have hown : s.vm.findClass RX8 = some m.cls := hown
  have hl : lv_has ls 1 [(0, .ref x)] := hl
  generalize wA L f sz = A at hw ⊢
  obtain ⟨fs, wr, dr, hxL, hxo, hfl, hfs1, hfs2, hfs3, hfs4, hfs7, hfs8, hwL, hww, hdL, hdd, hcL, hca, hcd⟩ := hz
  have n_x_ww : x ≠ ww := ne_E hww hxo (by simp)
  have n_x_dd : x ≠ dd := ne_E hdd hxo (by simp)
  have n_x_ca : x ≠ ca := ne_E hca hxo (by simp)
  have n_ww_x : ww ≠ x := ne_E hxo hww (by simp)
  have n_ww_dd : ww ≠ dd := ne_E hdd hww (by simp)
  have n_ww_ca : ww ≠ ca := ne_E hca hww (by simp)
  have n_dd_x : dd ≠ x := ne_E hxo hdd (by simp)
  have n_dd_ww : dd ≠ ww := ne_E hww hdd (by simp)
  have n_dd_ca : dd ≠ ca := hcd
  have n_ca_x : ca ≠ x := ne_E hxo hca (by simp)
  have n_ca_ww : ca ≠ ww := ne_E hww hca (by simp)
  have n_ca_dd : ca ≠ dd := (hcd).symm
  have ho0 : ∀ q : Nat, q ≠ x → q ≠ ww → q ≠ dd → q ≠ ca → f q = f q := fun q _ _ _ _ => rfl
  refine lv_aload_n hx hb dX8_count_0 rfl (lv_at hl 0 rfl) ?_
  refine lv_iconst (v := nI 0) hx hb dX8_count_1 (by decide) ?_
  refine w_put (C := RX8) (T := TX8) (N := 18) (ci := 8) (ref := "LiftFactorsModel") (ty := .int) (v := .int (nI 0)) hx hb hts inX8_u tyX8 tyX8_ok nmX8 hown hw hxL hxo rfl 3 (by decide) u_26 rfl rfl (by decide +kernel) rfl rfl (by first | omega | decide) dX8_count_2 (fun H locs hw => ?_)
  obtain ⟨fs1, hz1⟩ : ∃ zz9, zz9 = fs.set 3 (.int (nI 0)) := ⟨_, rfl⟩
  rw [← hz1] at hw
  have hlen1 : fs1.length = 18 := by rw [hz1, List.length_set]; exact hfl
  have g1_1 : fs1[1]? = some (.ref ca) := by rw [hz1, List.getElem?_set_ne (by decide)]; exact hfs1
  have g1_2 : fs1[2]? = some (.int (nI 0)) := by rw [hz1, List.getElem?_set_ne (by decide)]; exact hfs2
  have g1_4 : fs1[4]? = some (.int (nI 0)) := by rw [hz1, List.getElem?_set_ne (by decide)]; exact hfs4
  have g1_7 : fs1[7]? = some (.ref ww) := by rw [hz1, List.getElem?_set_ne (by decide)]; exact hfs7
  have g1_8 : fs1[8]? = some (.ref dd) := by rw [hz1, List.getElem?_set_ne (by decide)]; exact hfs8
  have g1_3 : fs1[3]? = some (.int (nI 0)) := by rw [hz1, List.getElem?_set_self (by omega)]
  obtain ⟨f2, hf2⟩ : ∃ g, g = va_up f x (eO 8 fs1) := ⟨_, rfl⟩
  rw [← hf2] at hw
  have h2_x : f2 x = eO 8 fs1 := by rw [hf2]; exact va_up_eq _ _ _
  have h2_ww : f2 ww = eJ G 1440 wr := by rw [hf2, va_up_ne _ _ n_ww_x]; exact hww
  have h2_dd : f2 dd = eI G 60 dr := by rw [hf2, va_up_ne _ _ n_dd_x]; exact hdd
  have h2_ca : f2 ca = eI G 880 (fun _ => 0) := by rw [hf2, va_up_ne _ _ n_ca_x]; exact hca
  have ho2 : ∀ q : Nat, q ≠ x → q ≠ ww → q ≠ dd → q ≠ ca → f2 q = f q := fun q hq0 hq1 hq2 hq3 => (show f2 q = f q from by rw [hf2]; exact va_up_ne _ _ hq0).trans (ho0 q hq0 hq1 hq2 hq3)
  refine lv_aload_n hx hb dX8_count_5 rfl (lv_at hl 0 rfl) ?_
  refine w_get (C := RX8) (T := TX8) (N := 18) (ci := 8) (ref := "LiftFactorsModel") (v := .int (nI 0)) hx hb hts inX8_u hown hw hxL h2_x rfl 2 (by decide) u_35 rfl g1_2 dX8_count_6 ?_
  exact w_iret (lf := fun g => (L, g)) hx hb hr hlocks f2 hw (⟨rfl, ⟨fs1, h2_x, g1_3⟩, ho2⟩) dX8_count_9
set_option maxRecDepth 100000 in
set_option maxHeartbeats 4000000 in
theorem z_X8_factor (l : Launch) (G : gG) (L : List Nat) (f : Nat → va_E) (sz : Nat) (x ww dd ca : Nat) (hz : mZ G L f x ww dd ca) (k : Int32) :
    Met l yX8_factor (uW yX8_factor cX8_factor 2 (some .int)) { frames := 0, cells := 0, slots := 0, locals := 0 } (wIn G [.ref x, .int k] L f sz) (va_Qi (fun (r9 : Int32) (g : Nat → va_E) => mO f g x ww dd ca (nI 1)) (fun g => wAt G (wA L f sz) L g) (wA L f sz)) 0 0 (wA L f sz) := by
  refine wEnter (by decide) (Nat.le_of_ble_eq_true rfl) ?_
  intro p e s m below meth c ls cx hinit hl hsz hw
  obtain ⟨hx, hb, hr, hml, hown, hts, hlocks⟩ := id cx
  have hown : s.vm.findClass RX8 = some m.cls := hown
  have hl : lv_has ls 2 [(0, .ref x), (1, .int k)] := hl
  generalize wA L f sz = A at hw ⊢
  obtain ⟨fs, wr, dr, hxL, hxo, hfl, hfs1, hfs2, hfs3, hfs4, hfs7, hfs8, hwL, hww, hdL, hdd, hcL, hca, hcd⟩ := hz
  have n_x_ww : x ≠ ww := ne_E hww hxo (by simp)
  have n_x_dd : x ≠ dd := ne_E hdd hxo (by simp)
  have n_x_ca : x ≠ ca := ne_E hca hxo (by simp)
  have n_ww_x : ww ≠ x := ne_E hxo hww (by simp)
  have n_ww_dd : ww ≠ dd := ne_E hdd hww (by simp)
  have n_ww_ca : ww ≠ ca := ne_E hca hww (by simp)
  have n_dd_x : dd ≠ x := ne_E hxo hdd (by simp)
  have n_dd_ww : dd ≠ ww := ne_E hww hdd (by simp)
  have n_dd_ca : dd ≠ ca := hcd
  have n_ca_x : ca ≠ x := ne_E hxo hca (by simp)
  have n_ca_ww : ca ≠ ww := ne_E hww hca (by simp)
  have n_ca_dd : ca ≠ dd := (hcd).symm
  have ho0 : ∀ q : Nat, q ≠ x → q ≠ ww → q ≠ dd → q ≠ ca → f q = f q := fun q _ _ _ _ => rfl
  refine lv_aload_n hx hb dX8_factor_0 rfl (lv_at hl 0 rfl) ?_
  refine lv_iload_n hx hb dX8_factor_1 rfl (lv_at hl 1 rfl) ?_
  refine lv_if_lt (tgt := 13) hx hb dX8_factor_2 (by decide) (fun hk => ?_) (fun hk => ?_)
  · skip
    refine lv_iconst (v := nI 1) hx hb dX8_factor_13 (by decide) ?_
    refine lv_goto (tgt := 18) hx hb dX8_factor_14 (by decide) ?_
    refine w_put (C := RX8) (T := TX8) (N := 18) (ci := 8) (ref := "LiftFactorsModel") (ty := .int) (v := .int (nI 1)) hx hb hts inX8_u tyX8 tyX8_ok nmX8 hown hw hxL hxo rfl 3 (by decide) u_26 rfl rfl (by decide +kernel) rfl rfl (by first | omega | decide) dX8_factor_18 (fun H locs hw => ?_)
    obtain ⟨fs1, hz1⟩ : ∃ zz9, zz9 = fs.set 3 (.int (nI 1)) := ⟨_, rfl⟩
    rw [← hz1] at hw
    have hlen1 : fs1.length = 18 := by rw [hz1, List.length_set]; exact hfl
    have g1_1 : fs1[1]? = some (.ref ca) := by rw [hz1, List.getElem?_set_ne (by decide)]; exact hfs1
    have g1_2 : fs1[2]? = some (.int (nI 0)) := by rw [hz1, List.getElem?_set_ne (by decide)]; exact hfs2
    have g1_4 : fs1[4]? = some (.int (nI 0)) := by rw [hz1, List.getElem?_set_ne (by decide)]; exact hfs4
    have g1_7 : fs1[7]? = some (.ref ww) := by rw [hz1, List.getElem?_set_ne (by decide)]; exact hfs7
    have g1_8 : fs1[8]? = some (.ref dd) := by rw [hz1, List.getElem?_set_ne (by decide)]; exact hfs8
    have g1_3 : fs1[3]? = some (.int (nI 1)) := by rw [hz1, List.getElem?_set_self (by omega)]
    obtain ⟨f2, hf2⟩ : ∃ g, g = va_up f x (eO 8 fs1) := ⟨_, rfl⟩
    rw [← hf2] at hw
    have h2_x : f2 x = eO 8 fs1 := by rw [hf2]; exact va_up_eq _ _ _
    have h2_ww : f2 ww = eJ G 1440 wr := by rw [hf2, va_up_ne _ _ n_ww_x]; exact hww
    have h2_dd : f2 dd = eI G 60 dr := by rw [hf2, va_up_ne _ _ n_dd_x]; exact hdd
    have h2_ca : f2 ca = eI G 880 (fun _ => 0) := by rw [hf2, va_up_ne _ _ n_ca_x]; exact hca
    have ho2 : ∀ q : Nat, q ≠ x → q ≠ ww → q ≠ dd → q ≠ ca → f2 q = f q := fun q hq0 hq1 hq2 hq3 => (show f2 q = f q from by rw [hf2]; exact va_up_ne _ _ hq0).trans (ho0 q hq0 hq1 hq2 hq3)
    refine lv_aload_n hx hb dX8_factor_21 rfl (lv_at hl 0 rfl) ?_
    refine w_get (C := RX8) (T := TX8) (N := 18) (ci := 8) (ref := "LiftFactorsModel") (v := .int (nI 1)) hx hb hts inX8_u hown hw hxL h2_x rfl 3 (by decide) u_26 rfl g1_3 dX8_factor_22 ?_
    refine lv_if_eq (tgt := 32) hx hb dX8_factor_25 (by decide) (fun h => absurd h (by decide)) (fun _ => ?_)
    refine lv_iconst (v := nI 0) hx hb dX8_factor_28 (by decide) ?_
    refine lv_goto (tgt := 38) hx hb dX8_factor_29 (by decide) ?_
    exact w_iret (lf := fun g => (L, g)) hx hb hr hlocks f2 hw (⟨⟨fs1, h2_x, g1_3⟩, ho2⟩) dX8_factor_38
  · skip
    refine lv_iload_n hx hb dX8_factor_5 rfl (lv_at hl 1 rfl) ?_
    refine lv_aload_n hx hb dX8_factor_6 rfl (lv_at hl 0 rfl) ?_
    refine w_get (C := RX8) (T := TX8) (N := 18) (ci := 8) (ref := "LiftFactorsModel") (v := .int (nI 0)) hx hb hts inX8_u hown hw hxL hxo rfl 4 (by decide) u_56 rfl hfs4 dX8_factor_7 ?_
    refine lv_icmp_lt (tgt := 17) hx hb dX8_factor_10 (by decide) (fun hk2 => ?_) (fun hk2 => ?_)
    · skip
      exact absurd hk2 (by rw [nI_0]; exact hk)
    · skip
      refine lv_iconst (v := nI 1) hx hb dX8_factor_13 (by decide) ?_
      refine lv_goto (tgt := 18) hx hb dX8_factor_14 (by decide) ?_
      refine w_put (C := RX8) (T := TX8) (N := 18) (ci := 8) (ref := "LiftFactorsModel") (ty := .int) (v := .int (nI 1)) hx hb hts inX8_u tyX8 tyX8_ok nmX8 hown hw hxL hxo rfl 3 (by decide) u_26 rfl rfl (by decide +kernel) rfl rfl (by first | omega | decide) dX8_factor_18 (fun H locs hw => ?_)
      obtain ⟨fs3, hz3⟩ : ∃ zz9, zz9 = fs.set 3 (.int (nI 1)) := ⟨_, rfl⟩
      rw [← hz3] at hw
      have hlen3 : fs3.length = 18 := by rw [hz3, List.length_set]; exact hfl
      have g3_1 : fs3[1]? = some (.ref ca) := by rw [hz3, List.getElem?_set_ne (by decide)]; exact hfs1
      have g3_2 : fs3[2]? = some (.int (nI 0)) := by rw [hz3, List.getElem?_set_ne (by decide)]; exact hfs2
      have g3_4 : fs3[4]? = some (.int (nI 0)) := by rw [hz3, List.getElem?_set_ne (by decide)]; exact hfs4
      have g3_7 : fs3[7]? = some (.ref ww) := by rw [hz3, List.getElem?_set_ne (by decide)]; exact hfs7
      have g3_8 : fs3[8]? = some (.ref dd) := by rw [hz3, List.getElem?_set_ne (by decide)]; exact hfs8
      have g3_3 : fs3[3]? = some (.int (nI 1)) := by rw [hz3, List.getElem?_set_self (by omega)]
      obtain ⟨f4, hf4⟩ : ∃ g, g = va_up f x (eO 8 fs3) := ⟨_, rfl⟩
      rw [← hf4] at hw
      have h4_x : f4 x = eO 8 fs3 := by rw [hf4]; exact va_up_eq _ _ _
      have h4_ww : f4 ww = eJ G 1440 wr := by rw [hf4, va_up_ne _ _ n_ww_x]; exact hww
      have h4_dd : f4 dd = eI G 60 dr := by rw [hf4, va_up_ne _ _ n_dd_x]; exact hdd
      have h4_ca : f4 ca = eI G 880 (fun _ => 0) := by rw [hf4, va_up_ne _ _ n_ca_x]; exact hca
      have ho4 : ∀ q : Nat, q ≠ x → q ≠ ww → q ≠ dd → q ≠ ca → f4 q = f q := fun q hq0 hq1 hq2 hq3 => (show f4 q = f q from by rw [hf4]; exact va_up_ne _ _ hq0).trans (ho0 q hq0 hq1 hq2 hq3)
      refine lv_aload_n hx hb dX8_factor_21 rfl (lv_at hl 0 rfl) ?_
      refine w_get (C := RX8) (T := TX8) (N := 18) (ci := 8) (ref := "LiftFactorsModel") (v := .int (nI 1)) hx hb hts inX8_u hown hw hxL h4_x rfl 3 (by decide) u_26 rfl g3_3 dX8_factor_22 ?_
      refine lv_if_eq (tgt := 32) hx hb dX8_factor_25 (by decide) (fun h => absurd h (by decide)) (fun _ => ?_)
      refine lv_iconst (v := nI 0) hx hb dX8_factor_28 (by decide) ?_
      refine lv_goto (tgt := 38) hx hb dX8_factor_29 (by decide) ?_
      exact w_iret (lf := fun g => (L, g)) hx hb hr hlocks f4 hw (⟨⟨fs3, h4_x, g3_3⟩, ho4⟩) dX8_factor_38
set_option maxRecDepth 100000 in
set_option maxHeartbeats 4000000 in
theorem z_X8_multiplicity (l : Launch) (G : gG) (L : List Nat) (f : Nat → va_E) (sz : Nat) (x ww dd ca : Nat) (hz : mZ G L f x ww dd ca) (k : Int32) :
    Met l yX8_multiplicity (uW yX8_multiplicity cX8_multiplicity 2 (some .int)) { frames := 0, cells := 0, slots := 0, locals := 0 } (wIn G [.ref x, .int k] L f sz) (va_Qi (fun (r9 : Int32) (g : Nat → va_E) => mO f g x ww dd ca (nI 1)) (fun g => wAt G (wA L f sz) L g) (wA L f sz)) 0 0 (wA L f sz) := by
  refine wEnter (by decide) (Nat.le_of_ble_eq_true rfl) ?_
  intro p e s m below meth c ls cx hinit hl hsz hw
  obtain ⟨hx, hb, hr, hml, hown, hts, hlocks⟩ := id cx
  have hown : s.vm.findClass RX8 = some m.cls := hown
  have hl : lv_has ls 2 [(0, .ref x), (1, .int k)] := hl
  generalize wA L f sz = A at hw ⊢
  obtain ⟨fs, wr, dr, hxL, hxo, hfl, hfs1, hfs2, hfs3, hfs4, hfs7, hfs8, hwL, hww, hdL, hdd, hcL, hca, hcd⟩ := hz
  have n_x_ww : x ≠ ww := ne_E hww hxo (by simp)
  have n_x_dd : x ≠ dd := ne_E hdd hxo (by simp)
  have n_x_ca : x ≠ ca := ne_E hca hxo (by simp)
  have n_ww_x : ww ≠ x := ne_E hxo hww (by simp)
  have n_ww_dd : ww ≠ dd := ne_E hdd hww (by simp)
  have n_ww_ca : ww ≠ ca := ne_E hca hww (by simp)
  have n_dd_x : dd ≠ x := ne_E hxo hdd (by simp)
  have n_dd_ww : dd ≠ ww := ne_E hww hdd (by simp)
  have n_dd_ca : dd ≠ ca := hcd
  have n_ca_x : ca ≠ x := ne_E hxo hca (by simp)
  have n_ca_ww : ca ≠ ww := ne_E hww hca (by simp)
  have n_ca_dd : ca ≠ dd := (hcd).symm
  have ho0 : ∀ q : Nat, q ≠ x → q ≠ ww → q ≠ dd → q ≠ ca → f q = f q := fun q _ _ _ _ => rfl
  refine lv_aload_n hx hb dX8_multiplicity_0 rfl (lv_at hl 0 rfl) ?_
  refine lv_iload_n hx hb dX8_multiplicity_1 rfl (lv_at hl 1 rfl) ?_
  refine lv_if_lt (tgt := 13) hx hb dX8_multiplicity_2 (by decide) (fun hk => ?_) (fun hk => ?_)
  · skip
    refine lv_iconst (v := nI 1) hx hb dX8_multiplicity_13 (by decide) ?_
    refine lv_goto (tgt := 18) hx hb dX8_multiplicity_14 (by decide) ?_
    refine w_put (C := RX8) (T := TX8) (N := 18) (ci := 8) (ref := "LiftFactorsModel") (ty := .int) (v := .int (nI 1)) hx hb hts inX8_u tyX8 tyX8_ok nmX8 hown hw hxL hxo rfl 3 (by decide) u_26 rfl rfl (by decide +kernel) rfl rfl (by first | omega | decide) dX8_multiplicity_18 (fun H locs hw => ?_)
    obtain ⟨fs1, hz1⟩ : ∃ zz9, zz9 = fs.set 3 (.int (nI 1)) := ⟨_, rfl⟩
    rw [← hz1] at hw
    have hlen1 : fs1.length = 18 := by rw [hz1, List.length_set]; exact hfl
    have g1_1 : fs1[1]? = some (.ref ca) := by rw [hz1, List.getElem?_set_ne (by decide)]; exact hfs1
    have g1_2 : fs1[2]? = some (.int (nI 0)) := by rw [hz1, List.getElem?_set_ne (by decide)]; exact hfs2
    have g1_4 : fs1[4]? = some (.int (nI 0)) := by rw [hz1, List.getElem?_set_ne (by decide)]; exact hfs4
    have g1_7 : fs1[7]? = some (.ref ww) := by rw [hz1, List.getElem?_set_ne (by decide)]; exact hfs7
    have g1_8 : fs1[8]? = some (.ref dd) := by rw [hz1, List.getElem?_set_ne (by decide)]; exact hfs8
    have g1_3 : fs1[3]? = some (.int (nI 1)) := by rw [hz1, List.getElem?_set_self (by omega)]
    obtain ⟨f2, hf2⟩ : ∃ g, g = va_up f x (eO 8 fs1) := ⟨_, rfl⟩
    rw [← hf2] at hw
    have h2_x : f2 x = eO 8 fs1 := by rw [hf2]; exact va_up_eq _ _ _
    have h2_ww : f2 ww = eJ G 1440 wr := by rw [hf2, va_up_ne _ _ n_ww_x]; exact hww
    have h2_dd : f2 dd = eI G 60 dr := by rw [hf2, va_up_ne _ _ n_dd_x]; exact hdd
    have h2_ca : f2 ca = eI G 880 (fun _ => 0) := by rw [hf2, va_up_ne _ _ n_ca_x]; exact hca
    have ho2 : ∀ q : Nat, q ≠ x → q ≠ ww → q ≠ dd → q ≠ ca → f2 q = f q := fun q hq0 hq1 hq2 hq3 => (show f2 q = f q from by rw [hf2]; exact va_up_ne _ _ hq0).trans (ho0 q hq0 hq1 hq2 hq3)
    refine lv_aload_n hx hb dX8_multiplicity_21 rfl (lv_at hl 0 rfl) ?_
    refine w_get (C := RX8) (T := TX8) (N := 18) (ci := 8) (ref := "LiftFactorsModel") (v := .int (nI 1)) hx hb hts inX8_u hown hw hxL h2_x rfl 3 (by decide) u_26 rfl g1_3 dX8_multiplicity_22 ?_
    refine lv_if_eq (tgt := 32) hx hb dX8_multiplicity_25 (by decide) (fun h => absurd h (by decide)) (fun _ => ?_)
    refine lv_iconst (v := nI 0) hx hb dX8_multiplicity_28 (by decide) ?_
    refine lv_goto (tgt := 38) hx hb dX8_multiplicity_29 (by decide) ?_
    exact w_iret (lf := fun g => (L, g)) hx hb hr hlocks f2 hw (⟨⟨fs1, h2_x, g1_3⟩, ho2⟩) dX8_multiplicity_38
  · skip
    refine lv_iload_n hx hb dX8_multiplicity_5 rfl (lv_at hl 1 rfl) ?_
    refine lv_aload_n hx hb dX8_multiplicity_6 rfl (lv_at hl 0 rfl) ?_
    refine w_get (C := RX8) (T := TX8) (N := 18) (ci := 8) (ref := "LiftFactorsModel") (v := .int (nI 0)) hx hb hts inX8_u hown hw hxL hxo rfl 4 (by decide) u_56 rfl hfs4 dX8_multiplicity_7 ?_
    refine lv_icmp_lt (tgt := 17) hx hb dX8_multiplicity_10 (by decide) (fun hk2 => ?_) (fun hk2 => ?_)
    · skip
      exact absurd hk2 (by rw [nI_0]; exact hk)
    · skip
      refine lv_iconst (v := nI 1) hx hb dX8_multiplicity_13 (by decide) ?_
      refine lv_goto (tgt := 18) hx hb dX8_multiplicity_14 (by decide) ?_
      refine w_put (C := RX8) (T := TX8) (N := 18) (ci := 8) (ref := "LiftFactorsModel") (ty := .int) (v := .int (nI 1)) hx hb hts inX8_u tyX8 tyX8_ok nmX8 hown hw hxL hxo rfl 3 (by decide) u_26 rfl rfl (by decide +kernel) rfl rfl (by first | omega | decide) dX8_multiplicity_18 (fun H locs hw => ?_)
      obtain ⟨fs3, hz3⟩ : ∃ zz9, zz9 = fs.set 3 (.int (nI 1)) := ⟨_, rfl⟩
      rw [← hz3] at hw
      have hlen3 : fs3.length = 18 := by rw [hz3, List.length_set]; exact hfl
      have g3_1 : fs3[1]? = some (.ref ca) := by rw [hz3, List.getElem?_set_ne (by decide)]; exact hfs1
      have g3_2 : fs3[2]? = some (.int (nI 0)) := by rw [hz3, List.getElem?_set_ne (by decide)]; exact hfs2
      have g3_4 : fs3[4]? = some (.int (nI 0)) := by rw [hz3, List.getElem?_set_ne (by decide)]; exact hfs4
      have g3_7 : fs3[7]? = some (.ref ww) := by rw [hz3, List.getElem?_set_ne (by decide)]; exact hfs7
      have g3_8 : fs3[8]? = some (.ref dd) := by rw [hz3, List.getElem?_set_ne (by decide)]; exact hfs8
      have g3_3 : fs3[3]? = some (.int (nI 1)) := by rw [hz3, List.getElem?_set_self (by omega)]
      obtain ⟨f4, hf4⟩ : ∃ g, g = va_up f x (eO 8 fs3) := ⟨_, rfl⟩
      rw [← hf4] at hw
      have h4_x : f4 x = eO 8 fs3 := by rw [hf4]; exact va_up_eq _ _ _
      have h4_ww : f4 ww = eJ G 1440 wr := by rw [hf4, va_up_ne _ _ n_ww_x]; exact hww
      have h4_dd : f4 dd = eI G 60 dr := by rw [hf4, va_up_ne _ _ n_dd_x]; exact hdd
      have h4_ca : f4 ca = eI G 880 (fun _ => 0) := by rw [hf4, va_up_ne _ _ n_ca_x]; exact hca
      have ho4 : ∀ q : Nat, q ≠ x → q ≠ ww → q ≠ dd → q ≠ ca → f4 q = f q := fun q hq0 hq1 hq2 hq3 => (show f4 q = f q from by rw [hf4]; exact va_up_ne _ _ hq0).trans (ho0 q hq0 hq1 hq2 hq3)
      refine lv_aload_n hx hb dX8_multiplicity_21 rfl (lv_at hl 0 rfl) ?_
      refine w_get (C := RX8) (T := TX8) (N := 18) (ci := 8) (ref := "LiftFactorsModel") (v := .int (nI 1)) hx hb hts inX8_u hown hw hxL h4_x rfl 3 (by decide) u_26 rfl g3_3 dX8_multiplicity_22 ?_
      refine lv_if_eq (tgt := 32) hx hb dX8_multiplicity_25 (by decide) (fun h => absurd h (by decide)) (fun _ => ?_)
      refine lv_iconst (v := nI 0) hx hb dX8_multiplicity_28 (by decide) ?_
      refine lv_goto (tgt := 38) hx hb dX8_multiplicity_29 (by decide) ?_
      exact w_iret (lf := fun g => (L, g)) hx hb hr hlocks f4 hw (⟨⟨fs3, h4_x, g3_3⟩, ho4⟩) dX8_multiplicity_38
set_option maxRecDepth 100000 in
set_option maxHeartbeats 4000000 in
theorem z_X8_poly (l : Launch) (G : gG) (L : List Nat) (f : Nat → va_E) (sz : Nat) (x ww dd ca : Nat) (hz : mZ G L f x ww dd ca)  :
    Met l yX8_poly (uW yX8_poly cX8_poly 1 (some .int)) { frames := 2, cells := 0, slots := 0, locals := 44 } (wIn G [.ref x] L f sz) (va_Qi (fun (r9 : Int32) (g : Nat → va_E) => r9 = nI 0 ∧ mO f g x ww dd ca (nI 0)) (fun g => wAt G (wA L f sz) L g) (wA L f sz)) 0 0 (wA L f sz) := by
  refine wEnter (by decide) (Nat.le_of_ble_eq_true rfl) ?_
  intro p e s m below meth c ls cx hinit hl hsz hw
  obtain ⟨hx, hb, hr, hml, hown, hts, hlocks⟩ := id cx
  have hown : s.vm.findClass RX8 = some m.cls := hown
  have hl : lv_has ls 1 [(0, .ref x)] := hl
  generalize wA L f sz = A at hw ⊢
  obtain ⟨fs, wr, dr, hxL, hxo, hfl, hfs1, hfs2, hfs3, hfs4, hfs7, hfs8, hwL, hww, hdL, hdd, hcL, hca, hcd⟩ := hz
  have n_x_ww : x ≠ ww := ne_E hww hxo (by simp)
  have n_x_dd : x ≠ dd := ne_E hdd hxo (by simp)
  have n_x_ca : x ≠ ca := ne_E hca hxo (by simp)
  have n_ww_x : ww ≠ x := ne_E hxo hww (by simp)
  have n_ww_dd : ww ≠ dd := ne_E hdd hww (by simp)
  have n_ww_ca : ww ≠ ca := ne_E hca hww (by simp)
  have n_dd_x : dd ≠ x := ne_E hxo hdd (by simp)
  have n_dd_ww : dd ≠ ww := ne_E hww hdd (by simp)
  have n_dd_ca : dd ≠ ca := hcd
  have n_ca_x : ca ≠ x := ne_E hxo hca (by simp)
  have n_ca_ww : ca ≠ ww := ne_E hww hca (by simp)
  have n_ca_dd : ca ≠ dd := (hcd).symm
  have ho0 : ∀ q : Nat, q ≠ x → q ≠ ww → q ≠ dd → q ≠ ca → f q = f q := fun q _ _ _ _ => rfl
  refine lv_aload_n hx hb dX8_poly_0 rfl (lv_at hl 0 rfl) ?_
  refine lv_aload_n hx hb dX8_poly_1 rfl (lv_at hl 0 rfl) ?_
  refine w_get (C := RX8) (T := TX8) (N := 18) (ci := 8) (ref := "LiftFactorsModel") (v := .int (nI 0)) hx hb hts inX8_u hown hw hxL hxo rfl 2 (by decide) u_35 rfl hfs2 dX8_poly_2 ?_
  refine lv_bipush (v := nI 80) hx hb dX8_poly_5 (by decide) ?_
  refine lv_icmp_ne (tgt := 14) hx hb dX8_poly_7 (by decide) (fun _ => ?_) (fun h => absurd h (by decide))
  refine lv_iconst (v := nI 0) hx hb dX8_poly_14 (by decide) ?_
  refine w_put (C := RX8) (T := TX8) (N := 18) (ci := 8) (ref := "LiftFactorsModel") (ty := .int) (v := .int (nI 0)) hx hb hts inX8_u tyX8 tyX8_ok nmX8 hown hw hxL hxo rfl 3 (by decide) u_26 rfl rfl (by decide +kernel) rfl rfl (by first | omega | decide) dX8_poly_15 (fun H locs hw => ?_)
  obtain ⟨fs1, hz1⟩ : ∃ zz9, zz9 = fs.set 3 (.int (nI 0)) := ⟨_, rfl⟩
  rw [← hz1] at hw
  have hlen1 : fs1.length = 18 := by rw [hz1, List.length_set]; exact hfl
  have g1_1 : fs1[1]? = some (.ref ca) := by rw [hz1, List.getElem?_set_ne (by decide)]; exact hfs1
  have g1_2 : fs1[2]? = some (.int (nI 0)) := by rw [hz1, List.getElem?_set_ne (by decide)]; exact hfs2
  have g1_4 : fs1[4]? = some (.int (nI 0)) := by rw [hz1, List.getElem?_set_ne (by decide)]; exact hfs4
  have g1_7 : fs1[7]? = some (.ref ww) := by rw [hz1, List.getElem?_set_ne (by decide)]; exact hfs7
  have g1_8 : fs1[8]? = some (.ref dd) := by rw [hz1, List.getElem?_set_ne (by decide)]; exact hfs8
  have g1_3 : fs1[3]? = some (.int (nI 0)) := by rw [hz1, List.getElem?_set_self (by omega)]
  obtain ⟨f2, hf2⟩ : ∃ g, g = va_up f x (eO 8 fs1) := ⟨_, rfl⟩
  rw [← hf2] at hw
  have h2_x : f2 x = eO 8 fs1 := by rw [hf2]; exact va_up_eq _ _ _
  have h2_ww : f2 ww = eJ G 1440 wr := by rw [hf2, va_up_ne _ _ n_ww_x]; exact hww
  have h2_dd : f2 dd = eI G 60 dr := by rw [hf2, va_up_ne _ _ n_dd_x]; exact hdd
  have h2_ca : f2 ca = eI G 880 (fun _ => 0) := by rw [hf2, va_up_ne _ _ n_ca_x]; exact hca
  have ho2 : ∀ q : Nat, q ≠ x → q ≠ ww → q ≠ dd → q ≠ ca → f2 q = f q := fun q hq0 hq1 hq2 hq3 => (show f2 q = f q from by rw [hf2]; exact va_up_ne _ _ hq0).trans (ho0 q hq0 hq1 hq2 hq3)
  refine lv_aload_n hx hb dX8_poly_18 rfl (lv_at hl 0 rfl) ?_
  refine w_get (C := RX8) (T := TX8) (N := 18) (ci := 8) (ref := "LiftFactorsModel") (v := .int (nI 0)) hx hb hts inX8_u hown hw hxL h2_x rfl 3 (by decide) u_26 rfl g1_3 dX8_poly_19 ?_
  refine lv_if_eq (tgt := 27) hx hb dX8_poly_22 (by decide) (fun _ => ?_) (fun h => absurd (by decide) h)
  refine lv_aload_n hx hb dX8_poly_27 rfl (lv_at hl 0 rfl) ?_
  refine lv_bipush (v := nI 11) hx hb dX8_poly_28 (by decide) ?_
  refine lv_lconst (v := 0) hx hb dX8_poly_30 (by decide) ?_
  refine w_callVv (lf := fun g => (L, g)) (As := [.int (nI 11), .long 0]) (rest := []) cx.fix hw (c_X8_constant0 l G L f2 _ x ww dd 11 fs1 wr dr hxL h2_x g1_7 g1_8 hwL h2_ww hdL h2_dd (by decide)) hxL h2_x rfl rfl (w_cV 2 hts u_57 u_58 u_59 u_60 u_61 rfl rfl (by decide) (by decide)) hl.1 rfl (lv_room (Nat.le_of_ble_eq_true rfl)) dX8_poly_31 (by decide) (fun u H locs hp hw => ?_)
  have hw : wH G A s.heap s L u H locs := hw
  rw [hp] at hw
  obtain ⟨f3, hf3⟩ : ∃ g, g = va_up f2 ww (eJ G 1440 (vp_updL wr (24 * 11) 0)) := ⟨_, rfl⟩
  rw [← hf3] at hw
  have h3_x : f3 x = eO 8 fs1 := by rw [hf3, va_up_ne _ _ n_x_ww]; exact h2_x
  have h3_ww : f3 ww = eJ G 1440 (vp_updL wr (24 * 11) 0) := by rw [hf3]; exact va_up_eq _ _ _
  have h3_dd : f3 dd = eI G 60 dr := by rw [hf3, va_up_ne _ _ n_dd_ww]; exact h2_dd
  have h3_ca : f3 ca = eI G 880 (fun _ => 0) := by rw [hf3, va_up_ne _ _ n_ca_ww]; exact h2_ca
  have ho3 : ∀ q : Nat, q ≠ x → q ≠ ww → q ≠ dd → q ≠ ca → f3 q = f q := fun q hq0 hq1 hq2 hq3 => (show f3 q = f2 q from by rw [hf3]; exact va_up_ne _ _ hq1).trans (ho2 q hq0 hq1 hq2 hq3)
  obtain ⟨f4, hf4⟩ : ∃ g, g = va_up f3 dd (eI G 60 (upd dr 11 (-1))) := ⟨_, rfl⟩
  rw [← hf4] at hw
  have h4_x : f4 x = eO 8 fs1 := by rw [hf4, va_up_ne _ _ n_x_dd]; exact h3_x
  have h4_ww : f4 ww = eJ G 1440 (vp_updL wr (24 * 11) 0) := by rw [hf4, va_up_ne _ _ n_ww_dd]; exact h3_ww
  have h4_dd : f4 dd = eI G 60 (upd dr 11 (-1)) := by rw [hf4]; exact va_up_eq _ _ _
  have h4_ca : f4 ca = eI G 880 (fun _ => 0) := by rw [hf4, va_up_ne _ _ n_ca_dd]; exact h3_ca
  have ho4 : ∀ q : Nat, q ≠ x → q ≠ ww → q ≠ dd → q ≠ ca → f4 q = f q := fun q hq0 hq1 hq2 hq3 => (show f4 q = f3 q from by rw [hf4]; exact va_up_ne _ _ hq2).trans (ho3 q hq0 hq1 hq2 hq3)
  refine lv_aload_n hx hb dX8_poly_34 rfl (lv_at hl 0 rfl) ?_
  refine lv_bipush (v := nI 11) hx hb dX8_poly_35 (by decide) ?_
  refine w_callVi (lf := fun g => (L, g)) (As := [.int (nI 11)]) (rest := []) cx.fix hw (c_X8_store l G L f4 _ x ww dd ca 11 0 fs1 (vp_updL wr (24 * 11) 0) (upd dr 11 (-1)) (fun _ => 0) hxL h4_x hlen1 g1_1 g1_2 g1_7 g1_8 hwL h4_ww hdL h4_dd hcL h4_ca n_dd_ca (by decide) (by decide)) hxL h4_x rfl rfl (w_cV 1 hts u_62 u_63 u_64 u_65 u_66 rfl rfl (by decide) (by decide)) hl.1 rfl (lv_room (Nat.le_of_ble_eq_true rfl)) dX8_poly_37 (by decide) (fun r9 u H locs hp hw => ?_)
  obtain ⟨e9, e10⟩ := hp
  have hw : wH G A s.heap s L u H locs := hw
  rw [e10] at hw
  subst e9
  exact w_iret (lf := fun g => (L, g)) hx hb hr hlocks _ hw (⟨rfl, ⟨_, va_up_eq _ _ _, (List.getElem?_set_ne (by decide)).trans g1_3⟩, fun q q0 q1 q2 q3 => ((va_up_ne _ _ q0).trans (va_up_ne _ _ q3)).trans (ho4 q q0 q1 q2 q3)⟩) dX8_poly_40
set_option maxRecDepth 100000 in
set_option maxHeartbeats 4000000 in
theorem z_X8_at (l : Launch) (G : gG) (L : List Nat) (f : Nat → va_E) (sz : Nat) (x ww dd ca : Nat) (hz : mZ G L f x ww dd ca) (v k : Int32) :
    Met l yX8_at (uW yX8_at cX8_at 3 (some .int)) { frames := 1, cells := 0, slots := 0, locals := 20 } (wIn G [.ref x, .int v, .int k] L f sz) (va_Qi (fun (r9 : Int32) (g : Nat → va_E) => ((inB v 80 && inB k 11) = true → r9 = nI 0) ∧ mO f g x ww dd ca (if inB v 80 && inB k 11 then nI 0 else nI 1)) (fun g => wAt G (wA L f sz) L g) (wA L f sz)) 0 0 (wA L f sz) := by
  refine wEnter (by decide) (Nat.le_of_ble_eq_true rfl) ?_
  intro p e s m below meth c ls cx hinit hl hsz hw
  obtain ⟨hx, hb, hr, hml, hown, hts, hlocks⟩ := id cx
  have hown : s.vm.findClass RX8 = some m.cls := hown
  have hl : lv_has ls 3 [(0, .ref x), (1, .int v), (2, .int k)] := hl
  generalize wA L f sz = A at hw ⊢
  obtain ⟨fs, wr, dr, hxL, hxo, hfl, hfs1, hfs2, hfs3, hfs4, hfs7, hfs8, hwL, hww, hdL, hdd, hcL, hca, hcd⟩ := hz
  have n_x_ww : x ≠ ww := ne_E hww hxo (by simp)
  have n_x_dd : x ≠ dd := ne_E hdd hxo (by simp)
  have n_x_ca : x ≠ ca := ne_E hca hxo (by simp)
  have n_ww_x : ww ≠ x := ne_E hxo hww (by simp)
  have n_ww_dd : ww ≠ dd := ne_E hdd hww (by simp)
  have n_ww_ca : ww ≠ ca := ne_E hca hww (by simp)
  have n_dd_x : dd ≠ x := ne_E hxo hdd (by simp)
  have n_dd_ww : dd ≠ ww := ne_E hww hdd (by simp)
  have n_dd_ca : dd ≠ ca := hcd
  have n_ca_x : ca ≠ x := ne_E hxo hca (by simp)
  have n_ca_ww : ca ≠ ww := ne_E hww hca (by simp)
  have n_ca_dd : ca ≠ dd := (hcd).symm
  have ho0 : ∀ q : Nat, q ≠ x → q ≠ ww → q ≠ dd → q ≠ ca → f q = f q := fun q _ _ _ _ => rfl
  refine lv_aload_n hx hb dX8_at_0 rfl (lv_at hl 0 rfl) ?_
  refine lv_iload_n hx hb dX8_at_1 rfl (lv_at hl 1 rfl) ?_
  refine w_callSi (lf := fun g => (L, g)) (As := [.int v]) (rest := [.ref x]) cx.fix hw (c_X8_isPoly l G L f _ v) (w_cS 1 hts u_41 u_42 u_43 u_44 rfl rfl (by decide) (by decide)) hl.1 rfl (lv_room (Nat.le_of_ble_eq_true rfl)) dX8_at_2 (by decide) (fun r9 u H locs hp hw => ?_)
  rcases hp with ⟨⟨e9, j, hj, ejj⟩ | ⟨e9, hno⟩, e10⟩
  · skip
    have hw : wH G A s.heap s L u H locs := hw
    rw [e10] at hw
    subst e9
    subst ejj
    rw [inB_t (by decide) hj]
    refine lv_if_eq (tgt := 19) hx hb dX8_at_5 (by decide) (fun h => absurd h (by decide)) (fun _ => ?_)
    refine lv_iload_n hx hb dX8_at_8 rfl (lv_at hl 2 rfl) ?_
    refine w_callSi (lf := fun g => (L, g)) (As := [.int k]) (rest := [.ref x]) cx.fix hw (c_X8_isPower l G L f _ k) (w_cS 1 hts u_67 u_68 u_69 u_70 rfl rfl (by decide) (by decide)) hl.1 rfl (lv_room (Nat.le_of_ble_eq_true rfl)) dX8_at_9 (by decide) (fun r9 u H locs hp hw => ?_)
    rcases hp with ⟨⟨e9, k2, hk2, ejk2⟩ | ⟨e9, hno⟩, e10⟩
    · skip
      have hw : wH G A s.heap s L u H locs := hw
      rw [e10] at hw
      subst e9
      subst ejk2
      rw [inB_t (by decide) hk2]
      refine lv_if_eq (tgt := 19) hx hb dX8_at_12 (by decide) (fun h => absurd h (by decide)) (fun _ => ?_)
      refine lv_iconst (v := nI 0) hx hb dX8_at_15 (by decide) ?_
      refine lv_goto (tgt := 20) hx hb dX8_at_16 (by decide) ?_
      refine w_put (C := RX8) (T := TX8) (N := 18) (ci := 8) (ref := "LiftFactorsModel") (ty := .int) (v := .int (nI 0)) hx hb hts inX8_u tyX8 tyX8_ok nmX8 hown hw hxL hxo rfl 3 (by decide) u_26 rfl rfl (by decide +kernel) rfl rfl (by first | omega | decide) dX8_at_20 (fun H locs hw => ?_)
      obtain ⟨fs1, hz1⟩ : ∃ zz9, zz9 = fs.set 3 (.int (nI 0)) := ⟨_, rfl⟩
      rw [← hz1] at hw
      have hlen1 : fs1.length = 18 := by rw [hz1, List.length_set]; exact hfl
      have g1_1 : fs1[1]? = some (.ref ca) := by rw [hz1, List.getElem?_set_ne (by decide)]; exact hfs1
      have g1_2 : fs1[2]? = some (.int (nI 0)) := by rw [hz1, List.getElem?_set_ne (by decide)]; exact hfs2
      have g1_4 : fs1[4]? = some (.int (nI 0)) := by rw [hz1, List.getElem?_set_ne (by decide)]; exact hfs4
      have g1_7 : fs1[7]? = some (.ref ww) := by rw [hz1, List.getElem?_set_ne (by decide)]; exact hfs7
      have g1_8 : fs1[8]? = some (.ref dd) := by rw [hz1, List.getElem?_set_ne (by decide)]; exact hfs8
      have g1_3 : fs1[3]? = some (.int (nI 0)) := by rw [hz1, List.getElem?_set_self (by omega)]
      obtain ⟨f2, hf2⟩ : ∃ g, g = va_up f x (eO 8 fs1) := ⟨_, rfl⟩
      rw [← hf2] at hw
      have h2_x : f2 x = eO 8 fs1 := by rw [hf2]; exact va_up_eq _ _ _
      have h2_ww : f2 ww = eJ G 1440 wr := by rw [hf2, va_up_ne _ _ n_ww_x]; exact hww
      have h2_dd : f2 dd = eI G 60 dr := by rw [hf2, va_up_ne _ _ n_dd_x]; exact hdd
      have h2_ca : f2 ca = eI G 880 (fun _ => 0) := by rw [hf2, va_up_ne _ _ n_ca_x]; exact hca
      have ho2 : ∀ q : Nat, q ≠ x → q ≠ ww → q ≠ dd → q ≠ ca → f2 q = f q := fun q hq0 hq1 hq2 hq3 => (show f2 q = f q from by rw [hf2]; exact va_up_ne _ _ hq0).trans (ho0 q hq0 hq1 hq2 hq3)
      refine lv_aload_n hx hb dX8_at_23 rfl (lv_at hl 0 rfl) ?_
      refine w_get (C := RX8) (T := TX8) (N := 18) (ci := 8) (ref := "LiftFactorsModel") (v := .int (nI 0)) hx hb hts inX8_u hown hw hxL h2_x rfl 3 (by decide) u_26 rfl g1_3 dX8_at_24 ?_
      refine lv_if_eq (tgt := 34) hx hb dX8_at_27 (by decide) (fun _ => ?_) (fun h => absurd (by decide) h)
      refine lv_aload_n hx hb dX8_at_34 rfl (lv_at hl 0 rfl) ?_
      refine w_get (C := RX8) (T := TX8) (N := 18) (ci := 8) (ref := "LiftFactorsModel") (v := .ref ca) hx hb hts inX8_u hown hw hxL h2_x rfl 1 (by decide) u_29 rfl g1_1 dX8_at_35 ?_
      refine lv_bipush (v := nI 11) hx hb dX8_at_38 (by decide) ?_
      refine lv_iload_n hx hb dX8_at_40 rfl (lv_at hl 1 rfl) ?_
      refine lv_imul hx hb dX8_at_41 ?_
      refine w_ti (y := nI (11 * j)) (pk_mul _ _) ?_
      refine lv_iload_n hx hb dX8_at_42 rfl (lv_at hl 2 rfl) ?_
      refine lv_iadd hx hb dX8_at_43 ?_
      refine w_ti (y := nI ((11 * j) + k2)) (nI_add _ _) ?_
      refine n_iald hx hb hw hcL h2_ca ((11 * j) + k2) (by omega) (by omega) dX8_at_44 ?_
      exact w_iret (lf := fun g => (L, g)) hx hb hr hlocks f2 hw (⟨(fun _ => rfl), ⟨fs1, h2_x, g1_3⟩, ho2⟩) dX8_at_45
    · skip
      have hw : wH G A s.heap s L u H locs := hw
      rw [e10] at hw
      subst e9
      rw [inB_f (by decide) hno]
      refine lv_if_eq (tgt := 19) hx hb dX8_at_12 (by decide) (fun _ => ?_) (fun h => absurd (by decide) h)
      refine lv_iconst (v := nI 1) hx hb dX8_at_19 (by decide) ?_
      refine w_put (C := RX8) (T := TX8) (N := 18) (ci := 8) (ref := "LiftFactorsModel") (ty := .int) (v := .int (nI 1)) hx hb hts inX8_u tyX8 tyX8_ok nmX8 hown hw hxL hxo rfl 3 (by decide) u_26 rfl rfl (by decide +kernel) rfl rfl (by first | omega | decide) dX8_at_20 (fun H locs hw => ?_)
      obtain ⟨fs3, hz3⟩ : ∃ zz9, zz9 = fs.set 3 (.int (nI 1)) := ⟨_, rfl⟩
      rw [← hz3] at hw
      have hlen3 : fs3.length = 18 := by rw [hz3, List.length_set]; exact hfl
      have g3_1 : fs3[1]? = some (.ref ca) := by rw [hz3, List.getElem?_set_ne (by decide)]; exact hfs1
      have g3_2 : fs3[2]? = some (.int (nI 0)) := by rw [hz3, List.getElem?_set_ne (by decide)]; exact hfs2
      have g3_4 : fs3[4]? = some (.int (nI 0)) := by rw [hz3, List.getElem?_set_ne (by decide)]; exact hfs4
      have g3_7 : fs3[7]? = some (.ref ww) := by rw [hz3, List.getElem?_set_ne (by decide)]; exact hfs7
      have g3_8 : fs3[8]? = some (.ref dd) := by rw [hz3, List.getElem?_set_ne (by decide)]; exact hfs8
      have g3_3 : fs3[3]? = some (.int (nI 1)) := by rw [hz3, List.getElem?_set_self (by omega)]
      obtain ⟨f4, hf4⟩ : ∃ g, g = va_up f x (eO 8 fs3) := ⟨_, rfl⟩
      rw [← hf4] at hw
      have h4_x : f4 x = eO 8 fs3 := by rw [hf4]; exact va_up_eq _ _ _
      have h4_ww : f4 ww = eJ G 1440 wr := by rw [hf4, va_up_ne _ _ n_ww_x]; exact hww
      have h4_dd : f4 dd = eI G 60 dr := by rw [hf4, va_up_ne _ _ n_dd_x]; exact hdd
      have h4_ca : f4 ca = eI G 880 (fun _ => 0) := by rw [hf4, va_up_ne _ _ n_ca_x]; exact hca
      have ho4 : ∀ q : Nat, q ≠ x → q ≠ ww → q ≠ dd → q ≠ ca → f4 q = f q := fun q hq0 hq1 hq2 hq3 => (show f4 q = f q from by rw [hf4]; exact va_up_ne _ _ hq0).trans (ho0 q hq0 hq1 hq2 hq3)
      refine lv_aload_n hx hb dX8_at_23 rfl (lv_at hl 0 rfl) ?_
      refine w_get (C := RX8) (T := TX8) (N := 18) (ci := 8) (ref := "LiftFactorsModel") (v := .int (nI 1)) hx hb hts inX8_u hown hw hxL h4_x rfl 3 (by decide) u_26 rfl g3_3 dX8_at_24 ?_
      refine lv_if_eq (tgt := 34) hx hb dX8_at_27 (by decide) (fun h => absurd h (by decide)) (fun _ => ?_)
      refine lv_iconst (v := nI 0) hx hb dX8_at_30 (by decide) ?_
      refine lv_goto (tgt := 45) hx hb dX8_at_31 (by decide) ?_
      exact w_iret (lf := fun g => (L, g)) hx hb hr hlocks f4 hw (⟨(fun h => Bool.noConfusion h), ⟨fs3, h4_x, g3_3⟩, ho4⟩) dX8_at_45
  · skip
    have hw : wH G A s.heap s L u H locs := hw
    rw [e10] at hw
    subst e9
    rw [inB_f (by decide) hno]
    refine lv_if_eq (tgt := 19) hx hb dX8_at_5 (by decide) (fun _ => ?_) (fun h => absurd (by decide) h)
    refine lv_iconst (v := nI 1) hx hb dX8_at_19 (by decide) ?_
    refine w_put (C := RX8) (T := TX8) (N := 18) (ci := 8) (ref := "LiftFactorsModel") (ty := .int) (v := .int (nI 1)) hx hb hts inX8_u tyX8 tyX8_ok nmX8 hown hw hxL hxo rfl 3 (by decide) u_26 rfl rfl (by decide +kernel) rfl rfl (by first | omega | decide) dX8_at_20 (fun H locs hw => ?_)
    obtain ⟨fs5, hz5⟩ : ∃ zz9, zz9 = fs.set 3 (.int (nI 1)) := ⟨_, rfl⟩
    rw [← hz5] at hw
    have hlen5 : fs5.length = 18 := by rw [hz5, List.length_set]; exact hfl
    have g5_1 : fs5[1]? = some (.ref ca) := by rw [hz5, List.getElem?_set_ne (by decide)]; exact hfs1
    have g5_2 : fs5[2]? = some (.int (nI 0)) := by rw [hz5, List.getElem?_set_ne (by decide)]; exact hfs2
    have g5_4 : fs5[4]? = some (.int (nI 0)) := by rw [hz5, List.getElem?_set_ne (by decide)]; exact hfs4
    have g5_7 : fs5[7]? = some (.ref ww) := by rw [hz5, List.getElem?_set_ne (by decide)]; exact hfs7
    have g5_8 : fs5[8]? = some (.ref dd) := by rw [hz5, List.getElem?_set_ne (by decide)]; exact hfs8
    have g5_3 : fs5[3]? = some (.int (nI 1)) := by rw [hz5, List.getElem?_set_self (by omega)]
    obtain ⟨f6, hf6⟩ : ∃ g, g = va_up f x (eO 8 fs5) := ⟨_, rfl⟩
    rw [← hf6] at hw
    have h6_x : f6 x = eO 8 fs5 := by rw [hf6]; exact va_up_eq _ _ _
    have h6_ww : f6 ww = eJ G 1440 wr := by rw [hf6, va_up_ne _ _ n_ww_x]; exact hww
    have h6_dd : f6 dd = eI G 60 dr := by rw [hf6, va_up_ne _ _ n_dd_x]; exact hdd
    have h6_ca : f6 ca = eI G 880 (fun _ => 0) := by rw [hf6, va_up_ne _ _ n_ca_x]; exact hca
    have ho6 : ∀ q : Nat, q ≠ x → q ≠ ww → q ≠ dd → q ≠ ca → f6 q = f q := fun q hq0 hq1 hq2 hq3 => (show f6 q = f q from by rw [hf6]; exact va_up_ne _ _ hq0).trans (ho0 q hq0 hq1 hq2 hq3)
    refine lv_aload_n hx hb dX8_at_23 rfl (lv_at hl 0 rfl) ?_
    refine w_get (C := RX8) (T := TX8) (N := 18) (ci := 8) (ref := "LiftFactorsModel") (v := .int (nI 1)) hx hb hts inX8_u hown hw hxL h6_x rfl 3 (by decide) u_26 rfl g5_3 dX8_at_24 ?_
    refine lv_if_eq (tgt := 34) hx hb dX8_at_27 (by decide) (fun h => absurd h (by decide)) (fun _ => ?_)
    refine lv_iconst (v := nI 0) hx hb dX8_at_30 (by decide) ?_
    refine lv_goto (tgt := 45) hx hb dX8_at_31 (by decide) ?_
    exact w_iret (lf := fun g => (L, g)) hx hb hr hlocks f6 hw (⟨(fun h => Bool.noConfusion h), ⟨fs5, h6_x, g5_3⟩, ho6⟩) dX8_at_45
def okV (v : Int32) : Bool := !(decide (v < (-9999))) && decide (v ≤ nI 9999)
set_option maxRecDepth 100000 in
set_option maxHeartbeats 4000000 in
theorem z_X8_set (l : Launch) (G : gG) (L : List Nat) (f : Nat → va_E) (sz : Nat) (x ww dd ca : Nat) (hz : mZ G L f x ww dd ca) (v k z : Int32) :
    Met l yX8_set (uW yX8_set cX8_set 5 (some .boolean)) { frames := 1, cells := 0, slots := 0, locals := 20 } (wIn G [.ref x, .int v, .int k, .int z] L f sz) (va_Qi (fun (r9 : Int32) (g : Nat → va_E) => ((inB v 80 && inB k 11 && okV z) = true → r9 = if z = nI 0 then nI 0 else nI 1) ∧ mO f g x ww dd ca (if inB v 80 && inB k 11 then (if okV z then nI 0 else nI 2) else nI 1)) (fun g => wAt G (wA L f sz) L g) (wA L f sz)) 0 0 (wA L f sz) := by
  refine wEnter (by decide) (Nat.le_of_ble_eq_true rfl) ?_
  intro p e s m below meth c ls cx hinit hl hsz hw
  obtain ⟨hx, hb, hr, hml, hown, hts, hlocks⟩ := id cx
  have hown : s.vm.findClass RX8 = some m.cls := hown
  have hl : lv_has ls 5 [(0, .ref x), (1, .int v), (2, .int k), (3, .int z)] := hl
  generalize wA L f sz = A at hw ⊢
  obtain ⟨fs, wr, dr, hxL, hxo, hfl, hfs1, hfs2, hfs3, hfs4, hfs7, hfs8, hwL, hww, hdL, hdd, hcL, hca, hcd⟩ := hz
  have n_x_ww : x ≠ ww := ne_E hww hxo (by simp)
  have n_x_dd : x ≠ dd := ne_E hdd hxo (by simp)
  have n_x_ca : x ≠ ca := ne_E hca hxo (by simp)
  have n_ww_x : ww ≠ x := ne_E hxo hww (by simp)
  have n_ww_dd : ww ≠ dd := ne_E hdd hww (by simp)
  have n_ww_ca : ww ≠ ca := ne_E hca hww (by simp)
  have n_dd_x : dd ≠ x := ne_E hxo hdd (by simp)
  have n_dd_ww : dd ≠ ww := ne_E hww hdd (by simp)
  have n_dd_ca : dd ≠ ca := hcd
  have n_ca_x : ca ≠ x := ne_E hxo hca (by simp)
  have n_ca_ww : ca ≠ ww := ne_E hww hca (by simp)
  have n_ca_dd : ca ≠ dd := (hcd).symm
  have ho0 : ∀ q : Nat, q ≠ x → q ≠ ww → q ≠ dd → q ≠ ca → f q = f q := fun q _ _ _ _ => rfl
  refine lv_aload_n hx hb dX8_set_0 rfl (lv_at hl 0 rfl) ?_
  refine lv_iload_n hx hb dX8_set_1 rfl (lv_at hl 1 rfl) ?_
  refine w_callSi (lf := fun g => (L, g)) (As := [.int v]) (rest := [.ref x]) cx.fix hw (c_X8_isPoly l G L f _ v) (w_cS 1 hts u_41 u_42 u_43 u_44 rfl rfl (by decide) (by decide)) hl.1 rfl (lv_room (Nat.le_of_ble_eq_true rfl)) dX8_set_2 (by decide) (fun r9 u H locs hp hw => ?_)
  rcases hp with ⟨⟨e9, j, hj, ejj⟩ | ⟨e9, hno⟩, e10⟩
  · skip
    have hw : wH G A s.heap s L u H locs := hw
    rw [e10] at hw
    subst e9
    subst ejj
    rw [inB_t (by decide) hj]
    refine lv_if_eq (tgt := 15) hx hb dX8_set_5 (by decide) (fun h => absurd h (by decide)) (fun _ => ?_)
    refine lv_iload_n hx hb dX8_set_8 rfl (lv_at hl 2 rfl) ?_
    refine w_callSi (lf := fun g => (L, g)) (As := [.int k]) (rest := [.ref x]) cx.fix hw (c_X8_isPower l G L f _ k) (w_cS 1 hts u_67 u_68 u_69 u_70 rfl rfl (by decide) (by decide)) hl.1 rfl (lv_room (Nat.le_of_ble_eq_true rfl)) dX8_set_9 (by decide) (fun r9 u H locs hp hw => ?_)
    rcases hp with ⟨⟨e9, k2, hk2, ejk2⟩ | ⟨e9, hno⟩, e10⟩
    · skip
      have hw : wH G A s.heap s L u H locs := hw
      rw [e10] at hw
      subst e9
      subst ejk2
      rw [inB_t (by decide) hk2]
      refine lv_if_ne (tgt := 19) hx hb dX8_set_12 (by decide) (fun _ => ?_) (fun h => absurd h (by decide))
      refine lv_iload_n hx hb dX8_set_19 rfl (lv_at hl 3 rfl) ?_
      refine lv_sipush (v := (-9999)) hx hb dX8_set_20 (by decide) ?_
      refine lv_icmp_lt (tgt := 33) hx hb dX8_set_23 (by decide) (fun hz1 => ?_) (fun hz1 => ?_)
      · skip
        rw [show okV z = false from by unfold okV; rw [decide_eq_true hz1]; simp]
        refine lv_iconst (v := nI 2) hx hb dX8_set_33 (by decide) ?_
        refine lv_goto (tgt := 38) hx hb dX8_set_34 (by decide) ?_
        refine w_put (C := RX8) (T := TX8) (N := 18) (ci := 8) (ref := "LiftFactorsModel") (ty := .int) (v := .int (nI 2)) hx hb hts inX8_u tyX8 tyX8_ok nmX8 hown hw hxL hxo rfl 3 (by decide) u_26 rfl rfl (by decide +kernel) rfl rfl (by first | omega | decide) dX8_set_38 (fun H locs hw => ?_)
        obtain ⟨fs1, hz1⟩ : ∃ zz9, zz9 = fs.set 3 (.int (nI 2)) := ⟨_, rfl⟩
        rw [← hz1] at hw
        have hlen1 : fs1.length = 18 := by rw [hz1, List.length_set]; exact hfl
        have g1_1 : fs1[1]? = some (.ref ca) := by rw [hz1, List.getElem?_set_ne (by decide)]; exact hfs1
        have g1_2 : fs1[2]? = some (.int (nI 0)) := by rw [hz1, List.getElem?_set_ne (by decide)]; exact hfs2
        have g1_4 : fs1[4]? = some (.int (nI 0)) := by rw [hz1, List.getElem?_set_ne (by decide)]; exact hfs4
        have g1_7 : fs1[7]? = some (.ref ww) := by rw [hz1, List.getElem?_set_ne (by decide)]; exact hfs7
        have g1_8 : fs1[8]? = some (.ref dd) := by rw [hz1, List.getElem?_set_ne (by decide)]; exact hfs8
        have g1_3 : fs1[3]? = some (.int (nI 2)) := by rw [hz1, List.getElem?_set_self (by omega)]
        obtain ⟨f2, hf2⟩ : ∃ g, g = va_up f x (eO 8 fs1) := ⟨_, rfl⟩
        rw [← hf2] at hw
        have h2_x : f2 x = eO 8 fs1 := by rw [hf2]; exact va_up_eq _ _ _
        have h2_ww : f2 ww = eJ G 1440 wr := by rw [hf2, va_up_ne _ _ n_ww_x]; exact hww
        have h2_dd : f2 dd = eI G 60 dr := by rw [hf2, va_up_ne _ _ n_dd_x]; exact hdd
        have h2_ca : f2 ca = eI G 880 (fun _ => 0) := by rw [hf2, va_up_ne _ _ n_ca_x]; exact hca
        have ho2 : ∀ q : Nat, q ≠ x → q ≠ ww → q ≠ dd → q ≠ ca → f2 q = f q := fun q hq0 hq1 hq2 hq3 => (show f2 q = f q from by rw [hf2]; exact va_up_ne _ _ hq0).trans (ho0 q hq0 hq1 hq2 hq3)
        refine lv_aload_n hx hb dX8_set_41 rfl (lv_at hl 0 rfl) ?_
        refine w_get (C := RX8) (T := TX8) (N := 18) (ci := 8) (ref := "LiftFactorsModel") (v := .int (nI 2)) hx hb hts inX8_u hown hw hxL h2_x rfl 3 (by decide) u_26 rfl g1_3 dX8_set_42 ?_
        refine lv_if_eq (tgt := 50) hx hb dX8_set_45 (by decide) (fun h => absurd h (by decide)) (fun _ => ?_)
        refine lv_iconst (v := nI 0) hx hb dX8_set_48 (by decide) ?_
        exact w_zret (lf := fun g => (L, g)) hx hb hr hlocks (by first | rfl | decide) f2 hw (⟨(fun h => Bool.noConfusion h), ⟨fs1, h2_x, g1_3⟩, ho2⟩) dX8_set_49
      · skip
        refine lv_iload_n hx hb dX8_set_26 rfl (lv_at hl 3 rfl) ?_
        refine lv_sipush (v := nI 9999) hx hb dX8_set_27 (by decide) ?_
        refine lv_icmp_le (tgt := 37) hx hb dX8_set_30 (by decide) (fun hz2 => ?_) (fun hz2 => ?_)
        · skip
          rw [show okV z = true from by unfold okV; rw [decide_eq_false hz1, decide_eq_true hz2]; rfl]
          refine lv_iconst (v := nI 0) hx hb dX8_set_37 (by decide) ?_
          refine w_put (C := RX8) (T := TX8) (N := 18) (ci := 8) (ref := "LiftFactorsModel") (ty := .int) (v := .int (nI 0)) hx hb hts inX8_u tyX8 tyX8_ok nmX8 hown hw hxL hxo rfl 3 (by decide) u_26 rfl rfl (by decide +kernel) rfl rfl (by first | omega | decide) dX8_set_38 (fun H locs hw => ?_)
          obtain ⟨fs3, hz3⟩ : ∃ zz9, zz9 = fs.set 3 (.int (nI 0)) := ⟨_, rfl⟩
          rw [← hz3] at hw
          have hlen3 : fs3.length = 18 := by rw [hz3, List.length_set]; exact hfl
          have g3_1 : fs3[1]? = some (.ref ca) := by rw [hz3, List.getElem?_set_ne (by decide)]; exact hfs1
          have g3_2 : fs3[2]? = some (.int (nI 0)) := by rw [hz3, List.getElem?_set_ne (by decide)]; exact hfs2
          have g3_4 : fs3[4]? = some (.int (nI 0)) := by rw [hz3, List.getElem?_set_ne (by decide)]; exact hfs4
          have g3_7 : fs3[7]? = some (.ref ww) := by rw [hz3, List.getElem?_set_ne (by decide)]; exact hfs7
          have g3_8 : fs3[8]? = some (.ref dd) := by rw [hz3, List.getElem?_set_ne (by decide)]; exact hfs8
          have g3_3 : fs3[3]? = some (.int (nI 0)) := by rw [hz3, List.getElem?_set_self (by omega)]
          obtain ⟨f4, hf4⟩ : ∃ g, g = va_up f x (eO 8 fs3) := ⟨_, rfl⟩
          rw [← hf4] at hw
          have h4_x : f4 x = eO 8 fs3 := by rw [hf4]; exact va_up_eq _ _ _
          have h4_ww : f4 ww = eJ G 1440 wr := by rw [hf4, va_up_ne _ _ n_ww_x]; exact hww
          have h4_dd : f4 dd = eI G 60 dr := by rw [hf4, va_up_ne _ _ n_dd_x]; exact hdd
          have h4_ca : f4 ca = eI G 880 (fun _ => 0) := by rw [hf4, va_up_ne _ _ n_ca_x]; exact hca
          have ho4 : ∀ q : Nat, q ≠ x → q ≠ ww → q ≠ dd → q ≠ ca → f4 q = f q := fun q hq0 hq1 hq2 hq3 => (show f4 q = f q from by rw [hf4]; exact va_up_ne _ _ hq0).trans (ho0 q hq0 hq1 hq2 hq3)
          refine lv_aload_n hx hb dX8_set_41 rfl (lv_at hl 0 rfl) ?_
          refine w_get (C := RX8) (T := TX8) (N := 18) (ci := 8) (ref := "LiftFactorsModel") (v := .int (nI 0)) hx hb hts inX8_u hown hw hxL h4_x rfl 3 (by decide) u_26 rfl g3_3 dX8_set_42 ?_
          refine lv_if_eq (tgt := 50) hx hb dX8_set_45 (by decide) (fun _ => ?_) (fun h => absurd (by decide) h)
          refine lv_aload_n hx hb dX8_set_50 rfl (lv_at hl 0 rfl) ?_
          refine w_get (C := RX8) (T := TX8) (N := 18) (ci := 8) (ref := "LiftFactorsModel") (v := .ref ca) hx hb hts inX8_u hown hw hxL h4_x rfl 1 (by decide) u_29 rfl g3_1 dX8_set_51 ?_
          refine lv_bipush (v := nI 11) hx hb dX8_set_54 (by decide) ?_
          refine lv_iload_n hx hb dX8_set_56 rfl (lv_at hl 1 rfl) ?_
          refine lv_imul hx hb dX8_set_57 ?_
          refine w_ti (y := nI (11 * j)) (pk_mul _ _) ?_
          refine lv_iload_n hx hb dX8_set_58 rfl (lv_at hl 2 rfl) ?_
          refine lv_iadd hx hb dX8_set_59 ?_
          refine w_ti (y := nI ((11 * j) + k2)) (nI_add _ _) ?_
          refine n_iald hx hb hw hcL h4_ca ((11 * j) + k2) (by omega) (by omega) dX8_set_60 ?_
          refine w_ti (y := nI 0) rfl ?_
          refine lv_iload_n hx hb dX8_set_61 rfl (lv_at hl 3 rfl) ?_
          refine lv_icmp_eq (tgt := 69) hx hb dX8_set_62 (by decide) (fun he => ?_) (fun he => ?_)
          · skip
            refine lv_iconst (v := nI 0) hx hb dX8_set_69 (by decide) ?_
            refine lv_istore (lv' := [(4, .int (nI 0)), (0, .ref x), (1, .int (nI j)), (2, .int (nI k2)), (3, .int z)]) hx hb dX8_set_70 hl (by decide) rfl (fun ls hl => ?_)
            refine lv_aload_n hx hb dX8_set_72 rfl (lv_at hl 1 rfl) ?_
            refine w_get (C := RX8) (T := TX8) (N := 18) (ci := 8) (ref := "LiftFactorsModel") (v := .ref ca) hx hb hts inX8_u hown hw hxL h4_x rfl 1 (by decide) u_29 rfl g3_1 dX8_set_73 ?_
            refine lv_bipush (v := nI 11) hx hb dX8_set_76 (by decide) ?_
            refine lv_iload_n hx hb dX8_set_78 rfl (lv_at hl 2 rfl) ?_
            refine lv_imul hx hb dX8_set_79 ?_
            refine w_ti (y := nI (11 * j)) (pk_mul _ _) ?_
            refine lv_iload_n hx hb dX8_set_80 rfl (lv_at hl 3 rfl) ?_
            refine lv_iadd hx hb dX8_set_81 ?_
            refine w_ti (y := nI ((11 * j) + k2)) (nI_add _ _) ?_
            refine lv_iload_n hx hb dX8_set_82 rfl (lv_at hl 4 rfl) ?_
            refine n_iast hx hb hw hcL h4_ca ((11 * j) + k2) (by omega) (by omega) dX8_set_83 (fun H locs hw => ?_)
            obtain ⟨f5, hf5⟩ : ∃ g, g = va_up f4 ca (eI G 880 (upd (fun _ => 0) ((11 * j) + k2) z)) := ⟨_, rfl⟩
            rw [← hf5] at hw
            have h5_x : f5 x = eO 8 fs3 := by rw [hf5, va_up_ne _ _ n_x_ca]; exact h4_x
            have h5_ww : f5 ww = eJ G 1440 wr := by rw [hf5, va_up_ne _ _ n_ww_ca]; exact h4_ww
            have h5_dd : f5 dd = eI G 60 dr := by rw [hf5, va_up_ne _ _ n_dd_ca]; exact h4_dd
            have h5_ca : f5 ca = eI G 880 (upd (fun _ => 0) ((11 * j) + k2) z) := by rw [hf5]; exact va_up_eq _ _ _
            have ho5 : ∀ q : Nat, q ≠ x → q ≠ ww → q ≠ dd → q ≠ ca → f5 q = f q := fun q hq0 hq1 hq2 hq3 => (show f5 q = f4 q from by rw [hf5]; exact va_up_ne _ _ hq3).trans (ho4 q hq0 hq1 hq2 hq3)
            refine lv_iload hx hb dX8_set_84 (lv_at hl 0 rfl) ?_
            exact w_zret (lf := fun g => (L, g)) hx hb hr hlocks (by first | rfl | decide) f5 hw (⟨(fun _ => (if_pos he.symm).symm), ⟨fs3, h5_x, g3_3⟩, ho5⟩) dX8_set_86
          · skip
            refine lv_iconst (v := nI 1) hx hb dX8_set_65 (by decide) ?_
            refine lv_goto (tgt := 70) hx hb dX8_set_66 (by decide) ?_
            refine lv_istore (lv' := [(4, .int (nI 1)), (0, .ref x), (1, .int (nI j)), (2, .int (nI k2)), (3, .int z)]) hx hb dX8_set_70 hl (by decide) rfl (fun ls hl => ?_)
            refine lv_aload_n hx hb dX8_set_72 rfl (lv_at hl 1 rfl) ?_
            refine w_get (C := RX8) (T := TX8) (N := 18) (ci := 8) (ref := "LiftFactorsModel") (v := .ref ca) hx hb hts inX8_u hown hw hxL h4_x rfl 1 (by decide) u_29 rfl g3_1 dX8_set_73 ?_
            refine lv_bipush (v := nI 11) hx hb dX8_set_76 (by decide) ?_
            refine lv_iload_n hx hb dX8_set_78 rfl (lv_at hl 2 rfl) ?_
            refine lv_imul hx hb dX8_set_79 ?_
            refine w_ti (y := nI (11 * j)) (pk_mul _ _) ?_
            refine lv_iload_n hx hb dX8_set_80 rfl (lv_at hl 3 rfl) ?_
            refine lv_iadd hx hb dX8_set_81 ?_
            refine w_ti (y := nI ((11 * j) + k2)) (nI_add _ _) ?_
            refine lv_iload_n hx hb dX8_set_82 rfl (lv_at hl 4 rfl) ?_
            refine n_iast hx hb hw hcL h4_ca ((11 * j) + k2) (by omega) (by omega) dX8_set_83 (fun H locs hw => ?_)
            obtain ⟨f6, hf6⟩ : ∃ g, g = va_up f4 ca (eI G 880 (upd (fun _ => 0) ((11 * j) + k2) z)) := ⟨_, rfl⟩
            rw [← hf6] at hw
            have h6_x : f6 x = eO 8 fs3 := by rw [hf6, va_up_ne _ _ n_x_ca]; exact h4_x
            have h6_ww : f6 ww = eJ G 1440 wr := by rw [hf6, va_up_ne _ _ n_ww_ca]; exact h4_ww
            have h6_dd : f6 dd = eI G 60 dr := by rw [hf6, va_up_ne _ _ n_dd_ca]; exact h4_dd
            have h6_ca : f6 ca = eI G 880 (upd (fun _ => 0) ((11 * j) + k2) z) := by rw [hf6]; exact va_up_eq _ _ _
            have ho6 : ∀ q : Nat, q ≠ x → q ≠ ww → q ≠ dd → q ≠ ca → f6 q = f q := fun q hq0 hq1 hq2 hq3 => (show f6 q = f4 q from by rw [hf6]; exact va_up_ne _ _ hq3).trans (ho4 q hq0 hq1 hq2 hq3)
            refine lv_iload hx hb dX8_set_84 (lv_at hl 0 rfl) ?_
            exact w_zret (lf := fun g => (L, g)) hx hb hr hlocks (by first | rfl | decide) f6 hw (⟨(fun _ => (if_neg (fun q => he q.symm)).symm), ⟨fs3, h6_x, g3_3⟩, ho6⟩) dX8_set_86
        · skip
          rw [show okV z = false from by unfold okV; rw [decide_eq_false hz2]; simp]
          refine lv_iconst (v := nI 2) hx hb dX8_set_33 (by decide) ?_
          refine lv_goto (tgt := 38) hx hb dX8_set_34 (by decide) ?_
          refine w_put (C := RX8) (T := TX8) (N := 18) (ci := 8) (ref := "LiftFactorsModel") (ty := .int) (v := .int (nI 2)) hx hb hts inX8_u tyX8 tyX8_ok nmX8 hown hw hxL hxo rfl 3 (by decide) u_26 rfl rfl (by decide +kernel) rfl rfl (by first | omega | decide) dX8_set_38 (fun H locs hw => ?_)
          obtain ⟨fs7, hz7⟩ : ∃ zz9, zz9 = fs.set 3 (.int (nI 2)) := ⟨_, rfl⟩
          rw [← hz7] at hw
          have hlen7 : fs7.length = 18 := by rw [hz7, List.length_set]; exact hfl
          have g7_1 : fs7[1]? = some (.ref ca) := by rw [hz7, List.getElem?_set_ne (by decide)]; exact hfs1
          have g7_2 : fs7[2]? = some (.int (nI 0)) := by rw [hz7, List.getElem?_set_ne (by decide)]; exact hfs2
          have g7_4 : fs7[4]? = some (.int (nI 0)) := by rw [hz7, List.getElem?_set_ne (by decide)]; exact hfs4
          have g7_7 : fs7[7]? = some (.ref ww) := by rw [hz7, List.getElem?_set_ne (by decide)]; exact hfs7
          have g7_8 : fs7[8]? = some (.ref dd) := by rw [hz7, List.getElem?_set_ne (by decide)]; exact hfs8
          have g7_3 : fs7[3]? = some (.int (nI 2)) := by rw [hz7, List.getElem?_set_self (by omega)]
          obtain ⟨f8, hf8⟩ : ∃ g, g = va_up f x (eO 8 fs7) := ⟨_, rfl⟩
          rw [← hf8] at hw
          have h8_x : f8 x = eO 8 fs7 := by rw [hf8]; exact va_up_eq _ _ _
          have h8_ww : f8 ww = eJ G 1440 wr := by rw [hf8, va_up_ne _ _ n_ww_x]; exact hww
          have h8_dd : f8 dd = eI G 60 dr := by rw [hf8, va_up_ne _ _ n_dd_x]; exact hdd
          have h8_ca : f8 ca = eI G 880 (fun _ => 0) := by rw [hf8, va_up_ne _ _ n_ca_x]; exact hca
          have ho8 : ∀ q : Nat, q ≠ x → q ≠ ww → q ≠ dd → q ≠ ca → f8 q = f q := fun q hq0 hq1 hq2 hq3 => (show f8 q = f q from by rw [hf8]; exact va_up_ne _ _ hq0).trans (ho0 q hq0 hq1 hq2 hq3)
          refine lv_aload_n hx hb dX8_set_41 rfl (lv_at hl 0 rfl) ?_
          refine w_get (C := RX8) (T := TX8) (N := 18) (ci := 8) (ref := "LiftFactorsModel") (v := .int (nI 2)) hx hb hts inX8_u hown hw hxL h8_x rfl 3 (by decide) u_26 rfl g7_3 dX8_set_42 ?_
          refine lv_if_eq (tgt := 50) hx hb dX8_set_45 (by decide) (fun h => absurd h (by decide)) (fun _ => ?_)
          refine lv_iconst (v := nI 0) hx hb dX8_set_48 (by decide) ?_
          exact w_zret (lf := fun g => (L, g)) hx hb hr hlocks (by first | rfl | decide) f8 hw (⟨(fun h => Bool.noConfusion h), ⟨fs7, h8_x, g7_3⟩, ho8⟩) dX8_set_49
    · skip
      have hw : wH G A s.heap s L u H locs := hw
      rw [e10] at hw
      subst e9
      rw [inB_f (by decide) hno]
      refine lv_if_ne (tgt := 19) hx hb dX8_set_12 (by decide) (fun h => absurd (by decide) h) (fun _ => ?_)
      refine lv_iconst (v := nI 1) hx hb dX8_set_15 (by decide) ?_
      refine lv_goto (tgt := 38) hx hb dX8_set_16 (by decide) ?_
      refine w_put (C := RX8) (T := TX8) (N := 18) (ci := 8) (ref := "LiftFactorsModel") (ty := .int) (v := .int (nI 1)) hx hb hts inX8_u tyX8 tyX8_ok nmX8 hown hw hxL hxo rfl 3 (by decide) u_26 rfl rfl (by decide +kernel) rfl rfl (by first | omega | decide) dX8_set_38 (fun H locs hw => ?_)
      obtain ⟨fs9, hz9⟩ : ∃ zz9, zz9 = fs.set 3 (.int (nI 1)) := ⟨_, rfl⟩
      rw [← hz9] at hw
      have hlen9 : fs9.length = 18 := by rw [hz9, List.length_set]; exact hfl
      have g9_1 : fs9[1]? = some (.ref ca) := by rw [hz9, List.getElem?_set_ne (by decide)]; exact hfs1
      have g9_2 : fs9[2]? = some (.int (nI 0)) := by rw [hz9, List.getElem?_set_ne (by decide)]; exact hfs2
      have g9_4 : fs9[4]? = some (.int (nI 0)) := by rw [hz9, List.getElem?_set_ne (by decide)]; exact hfs4
      have g9_7 : fs9[7]? = some (.ref ww) := by rw [hz9, List.getElem?_set_ne (by decide)]; exact hfs7
      have g9_8 : fs9[8]? = some (.ref dd) := by rw [hz9, List.getElem?_set_ne (by decide)]; exact hfs8
      have g9_3 : fs9[3]? = some (.int (nI 1)) := by rw [hz9, List.getElem?_set_self (by omega)]
      obtain ⟨f10, hf10⟩ : ∃ g, g = va_up f x (eO 8 fs9) := ⟨_, rfl⟩
      rw [← hf10] at hw
      have h10_x : f10 x = eO 8 fs9 := by rw [hf10]; exact va_up_eq _ _ _
      have h10_ww : f10 ww = eJ G 1440 wr := by rw [hf10, va_up_ne _ _ n_ww_x]; exact hww
      have h10_dd : f10 dd = eI G 60 dr := by rw [hf10, va_up_ne _ _ n_dd_x]; exact hdd
      have h10_ca : f10 ca = eI G 880 (fun _ => 0) := by rw [hf10, va_up_ne _ _ n_ca_x]; exact hca
      have ho10 : ∀ q : Nat, q ≠ x → q ≠ ww → q ≠ dd → q ≠ ca → f10 q = f q := fun q hq0 hq1 hq2 hq3 => (show f10 q = f q from by rw [hf10]; exact va_up_ne _ _ hq0).trans (ho0 q hq0 hq1 hq2 hq3)
      refine lv_aload_n hx hb dX8_set_41 rfl (lv_at hl 0 rfl) ?_
      refine w_get (C := RX8) (T := TX8) (N := 18) (ci := 8) (ref := "LiftFactorsModel") (v := .int (nI 1)) hx hb hts inX8_u hown hw hxL h10_x rfl 3 (by decide) u_26 rfl g9_3 dX8_set_42 ?_
      refine lv_if_eq (tgt := 50) hx hb dX8_set_45 (by decide) (fun h => absurd h (by decide)) (fun _ => ?_)
      refine lv_iconst (v := nI 0) hx hb dX8_set_48 (by decide) ?_
      exact w_zret (lf := fun g => (L, g)) hx hb hr hlocks (by first | rfl | decide) f10 hw (⟨(fun h => Bool.noConfusion h), ⟨fs9, h10_x, g9_3⟩, ho10⟩) dX8_set_49
  · skip
    have hw : wH G A s.heap s L u H locs := hw
    rw [e10] at hw
    subst e9
    rw [inB_f (by decide) hno]
    refine lv_if_eq (tgt := 15) hx hb dX8_set_5 (by decide) (fun _ => ?_) (fun h => absurd (by decide) h)
    refine lv_iconst (v := nI 1) hx hb dX8_set_15 (by decide) ?_
    refine lv_goto (tgt := 38) hx hb dX8_set_16 (by decide) ?_
    refine w_put (C := RX8) (T := TX8) (N := 18) (ci := 8) (ref := "LiftFactorsModel") (ty := .int) (v := .int (nI 1)) hx hb hts inX8_u tyX8 tyX8_ok nmX8 hown hw hxL hxo rfl 3 (by decide) u_26 rfl rfl (by decide +kernel) rfl rfl (by first | omega | decide) dX8_set_38 (fun H locs hw => ?_)
    obtain ⟨fs11, hz11⟩ : ∃ zz9, zz9 = fs.set 3 (.int (nI 1)) := ⟨_, rfl⟩
    rw [← hz11] at hw
    have hlen11 : fs11.length = 18 := by rw [hz11, List.length_set]; exact hfl
    have g11_1 : fs11[1]? = some (.ref ca) := by rw [hz11, List.getElem?_set_ne (by decide)]; exact hfs1
    have g11_2 : fs11[2]? = some (.int (nI 0)) := by rw [hz11, List.getElem?_set_ne (by decide)]; exact hfs2
    have g11_4 : fs11[4]? = some (.int (nI 0)) := by rw [hz11, List.getElem?_set_ne (by decide)]; exact hfs4
    have g11_7 : fs11[7]? = some (.ref ww) := by rw [hz11, List.getElem?_set_ne (by decide)]; exact hfs7
    have g11_8 : fs11[8]? = some (.ref dd) := by rw [hz11, List.getElem?_set_ne (by decide)]; exact hfs8
    have g11_3 : fs11[3]? = some (.int (nI 1)) := by rw [hz11, List.getElem?_set_self (by omega)]
    obtain ⟨f12, hf12⟩ : ∃ g, g = va_up f x (eO 8 fs11) := ⟨_, rfl⟩
    rw [← hf12] at hw
    have h12_x : f12 x = eO 8 fs11 := by rw [hf12]; exact va_up_eq _ _ _
    have h12_ww : f12 ww = eJ G 1440 wr := by rw [hf12, va_up_ne _ _ n_ww_x]; exact hww
    have h12_dd : f12 dd = eI G 60 dr := by rw [hf12, va_up_ne _ _ n_dd_x]; exact hdd
    have h12_ca : f12 ca = eI G 880 (fun _ => 0) := by rw [hf12, va_up_ne _ _ n_ca_x]; exact hca
    have ho12 : ∀ q : Nat, q ≠ x → q ≠ ww → q ≠ dd → q ≠ ca → f12 q = f q := fun q hq0 hq1 hq2 hq3 => (show f12 q = f q from by rw [hf12]; exact va_up_ne _ _ hq0).trans (ho0 q hq0 hq1 hq2 hq3)
    refine lv_aload_n hx hb dX8_set_41 rfl (lv_at hl 0 rfl) ?_
    refine w_get (C := RX8) (T := TX8) (N := 18) (ci := 8) (ref := "LiftFactorsModel") (v := .int (nI 1)) hx hb hts inX8_u hown hw hxL h12_x rfl 3 (by decide) u_26 rfl g11_3 dX8_set_42 ?_
    refine lv_if_eq (tgt := 50) hx hb dX8_set_45 (by decide) (fun h => absurd h (by decide)) (fun _ => ?_)
    refine lv_iconst (v := nI 0) hx hb dX8_set_48 (by decide) ?_
    exact w_zret (lf := fun g => (L, g)) hx hb hr hlocks (by first | rfl | decide) f12 hw (⟨(fun h => Bool.noConfusion h), ⟨fs11, h12_x, g11_3⟩, ho12⟩) dX8_set_49
