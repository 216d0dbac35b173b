theorem u_41 : Cond.methodLink RX8 180 yX8_isPoly ∈ uU := uU_in (by decide +kernel) (by decide +kernel)
theorem u_42 : Cond.static yX8_isPoly ∈ uU := uU_in (by decide +kernel) (by decide +kernel)
theorem u_43 : Cond.initialized yX8_isPoly.cls ∈ uU := uU_in (by decide +kernel) (by decide +kernel)
theorem u_44 : Cond.code yX8_isPoly cX8_isPoly 1 (some .boolean) ∈ uU := uU_in (by decide +kernel) (by decide +kernel)
theorem u_45 : Cond.methodLink RX8 184 yX8_load ∈ uU := uU_in (by decide +kernel) (by decide +kernel)
theorem u_46 : Cond.instanceMethod yX8_load ∈ uU := uU_in (by decide +kernel) (by decide +kernel)
theorem u_47 : Cond.selects yX8_load.cls yX8_load yX8_load ∈ uU := uU_in (by decide +kernel) (by decide +kernel)
theorem u_48 : Cond.initialized yX8_load.cls ∈ uU := uU_in (by decide +kernel) (by decide +kernel)
theorem u_49 : Cond.code yX8_load cX8_load 4 none ∈ uU := uU_in (by decide +kernel) (by decide +kernel)
def inB (p : Int32) (n : Nat) : Bool := decide (0 ≤ p) && decide (p < nI n)
theorem inB_t {n j : Nat} (hn : n < 2 ^ 31) (hj : j < n) : inB (nI j) n = true := by
  unfold inB
  rw [decide_eq_true (nI_pos' (by omega)), decide_eq_true (nI_lt hj hn)]; rfl
theorem inB_f {p : Int32} {n : Nat} (hn : n < 2 ^ 31) (h : ∀ j, j < n → p ≠ nI j) : inB p n = false := by
  cases hb : inB p n with
  | false => rfl
  | true =>
    unfold inB at hb
    rw [Bool.and_eq_true, decide_eq_true_iff, decide_eq_true_iff] at hb
    obtain ⟨j, hj, e⟩ := i32_range (p := p) hn (fun q => by rw [Int32.lt_iff_toInt_lt] at q; have := hb.1; rw [Int32.le_iff_toInt_le] at this; omega) (fun q => by rw [Int32.le_iff_toInt_le] at q; have := hb.2; rw [Int32.lt_iff_toInt_lt] at this; omega)
    exact absurd e (h j hj)
/-- what a call on the reference leaves: its object with the sign of a throw, nothing else but its own arrays changed -/
def mO (f g : Nat → va_E) (x ww dd ca : Nat) (th : Int32) : Prop := (∃ fs, g x = eO 8 fs ∧ fs[3]? = some (.int th)) ∧ ∀ q : Nat, q ≠ x → q ≠ ww → q ≠ dd → q ≠ ca → g q = f q
/-- a fresh reference object -/
def mZ (G : gG) (L : List Nat) (f : Nat → va_E) (x ww dd ca : Nat) : Prop := ∃ (fs : List Value) (wr : Nat → Int64) (dr : Nat → Int32), x ∈ L ∧ f x = eO 8 fs ∧ fs.length = 18 ∧ fs[1]? = some (.ref ca) ∧ fs[2]? = some (.int (nI 0)) ∧ fs[3]? = some (.int (nI 0)) ∧ fs[4]? = some (.int (nI 0)) ∧ fs[7]? = some (.ref ww) ∧ fs[8]? = some (.ref dd) ∧ ww ∈ L ∧ f ww = eJ G 1440 wr ∧ dd ∈ L ∧ f dd = eI G 60 dr ∧ ca ∈ L ∧ f ca = eI G 880 (fun _ => 0) ∧ dd ≠ ca
set_option maxRecDepth 100000 in
set_option maxHeartbeats 4000000 in
theorem z_X8_run (l : Launch) (G : gG) (L : List Nat) (f : Nat → va_E) (sz : Nat) (x ww dd ca : Nat) (hz : mZ G L f x ww dd ca) (v : Int32) :
    Met l yX8_run (uW yX8_run cX8_run 4 (some .int)) { frames := 2, cells := 0, slots := 0, locals := 46 } (wIn G [.ref x, .int v] L f sz) (va_Qi (fun (r9 : Int32) (g : Nat → va_E) => (inB v 80 = true → r9 = -1) ∧ mO f g x ww dd ca (if inB v 80 then nI 0 else nI 1)) (fun g => wAt G (wA L f sz) L g) (wA L f sz)) 0 0 (wA L f sz) := by
  refine wEnter (by decide) (Nat.le_of_ble_eq_true rfl) ?_
  intro p e s m below meth c ls cx hinit hl hsz hw
  obtain ⟨hx, hb, hr, hml, hown, hts, hlocks⟩ := id cx
  have hown : s.vm.findClass RX8 = some m.cls := hown
  have hl : lv_has ls 4 [(0, .ref x), (1, .int v)] := hl
  generalize wA L f sz = A at hw ⊢
  obtain ⟨fs, wr, dr, hxL, hxo, hfl, hfs1, hfs2, hfs3, hfs4, hfs7, hfs8, hwL, hww, hdL, hdd, hcL, hca, hcd⟩ := hz
  have n_x_ww : x ≠ ww := ne_E hww hxo (by simp)
  have n_x_dd : x ≠ dd := ne_E hdd hxo (by simp)
  have n_x_ca : x ≠ ca := ne_E hca hxo (by simp)
  have n_ww_x : ww ≠ x := ne_E hxo hww (by simp)
  have n_ww_dd : ww ≠ dd := ne_E hdd hww (by simp)
  have n_ww_ca : ww ≠ ca := ne_E hca hww (by simp)
  have n_dd_x : dd ≠ x := ne_E hxo hdd (by simp)
  have n_dd_ww : dd ≠ ww := ne_E hww hdd (by simp)
  have n_dd_ca : dd ≠ ca := hcd
  have n_ca_x : ca ≠ x := ne_E hxo hca (by simp)
  have n_ca_ww : ca ≠ ww := ne_E hww hca (by simp)
  have n_ca_dd : ca ≠ dd := (hcd).symm
  have ho0 : ∀ q : Nat, q ≠ x → q ≠ ww → q ≠ dd → q ≠ ca → f q = f q := fun q _ _ _ _ => rfl
  refine lv_aload_n hx hb dX8_run_0 rfl (lv_at hl 0 rfl) ?_
  refine lv_iload_n hx hb dX8_run_1 rfl (lv_at hl 1 rfl) ?_
  refine w_callSi (lf := fun g => (L, g)) (As := [.int v]) (rest := [.ref x]) cx.fix hw (c_X8_isPoly l G L f _ v) (w_cS 1 hts u_41 u_42 u_43 u_44 rfl rfl (by decide) (by decide)) hl.1 rfl (lv_room (Nat.le_of_ble_eq_true rfl)) dX8_run_2 (by decide) (fun r9 u H locs hp hw => ?_)
  rcases hp with ⟨⟨e9, j, hj, ejj⟩ | ⟨e9, hno⟩, e10⟩
  · skip
    have hw : wH G A s.heap s L u H locs := hw
    rw [e10] at hw
    subst e9
    subst ejj
    rw [inB_t (by decide) hj]
    refine lv_if_eq (tgt := 12) hx hb dX8_run_5 (by decide) (fun h => absurd h (by decide)) (fun _ => ?_)
    refine lv_iconst (v := nI 0) hx hb dX8_run_8 (by decide) ?_
    refine lv_goto (tgt := 13) hx hb dX8_run_9 (by decide) ?_
    refine w_put (C := RX8) (T := TX8) (N := 18) (ci := 8) (ref := "LiftFactorsModel") (ty := .int) (v := .int (nI 0)) hx hb hts inX8_u tyX8 tyX8_ok nmX8 hown hw hxL hxo rfl 3 (by decide) u_26 rfl rfl (by decide +kernel) rfl rfl (by first | omega | decide) dX8_run_13 (fun H locs hw => ?_)
    obtain ⟨fs1, hz1⟩ : ∃ zz9, zz9 = fs.set 3 (.int (nI 0)) := ⟨_, rfl⟩
    rw [← hz1] at hw
    have hlen1 : fs1.length = 18 := by rw [hz1, List.length_set]; exact hfl
    have g1_1 : fs1[1]? = some (.ref ca) := by rw [hz1, List.getElem?_set_ne (by decide)]; exact hfs1
    have g1_2 : fs1[2]? = some (.int (nI 0)) := by rw [hz1, List.getElem?_set_ne (by decide)]; exact hfs2
    have g1_4 : fs1[4]? = some (.int (nI 0)) := by rw [hz1, List.getElem?_set_ne (by decide)]; exact hfs4
    have g1_7 : fs1[7]? = some (.ref ww) := by rw [hz1, List.getElem?_set_ne (by decide)]; exact hfs7
    have g1_8 : fs1[8]? = some (.ref dd) := by rw [hz1, List.getElem?_set_ne (by decide)]; exact hfs8
    have g1_3 : fs1[3]? = some (.int (nI 0)) := by rw [hz1, List.getElem?_set_self (by omega)]
    obtain ⟨f2, hf2⟩ : ∃ g, g = va_up f x (eO 8 fs1) := ⟨_, rfl⟩
    rw [← hf2] at hw
    have h2_x : f2 x = eO 8 fs1 := by rw [hf2]; exact va_up_eq _ _ _
    have h2_ww : f2 ww = eJ G 1440 wr := by rw [hf2, va_up_ne _ _ n_ww_x]; exact hww
    have h2_dd : f2 dd = eI G 60 dr := by rw [hf2, va_up_ne _ _ n_dd_x]; exact hdd
    have h2_ca : f2 ca = eI G 880 (fun _ => 0) := by rw [hf2, va_up_ne _ _ n_ca_x]; exact hca
    have ho2 : ∀ q : Nat, q ≠ x → q ≠ ww → q ≠ dd → q ≠ ca → f2 q = f q := fun q hq0 hq1 hq2 hq3 => (show f2 q = f q from by rw [hf2]; exact va_up_ne _ _ hq0).trans (ho0 q hq0 hq1 hq2 hq3)
    refine lv_aload_n hx hb dX8_run_16 rfl (lv_at hl 0 rfl) ?_
    refine w_get (C := RX8) (T := TX8) (N := 18) (ci := 8) (ref := "LiftFactorsModel") (v := .int (nI 0)) hx hb hts inX8_u hown hw hxL h2_x rfl 3 (by decide) u_26 rfl g1_3 dX8_run_17 ?_
    refine lv_if_eq (tgt := 25) hx hb dX8_run_20 (by decide) (fun _ => ?_) (fun h => absurd (by decide) h)
    refine lv_aload_n hx hb dX8_run_25 rfl (lv_at hl 0 rfl) ?_
    refine lv_iload_n hx hb dX8_run_26 rfl (lv_at hl 1 rfl) ?_
    refine lv_iconst (v := nI 0) hx hb dX8_run_27 (by decide) ?_
    refine w_callVv (lf := fun g => (L, g)) (As := [.int (nI j), .int (nI 0)]) (rest := []) cx.fix hw (c_X8_load l G L f2 _ x ww dd ca 0 j fs1 wr dr (fun _ => 0) hxL h2_x g1_1 g1_7 g1_8 hwL h2_ww hdL h2_dd hcL h2_ca (by decide) hj) hxL h2_x rfl rfl (w_cV 2 hts u_45 u_46 u_47 u_48 u_49 rfl rfl (by decide) (by decide)) hl.1 rfl (lv_room (Nat.le_of_ble_eq_true rfl)) dX8_run_28 (by decide) (fun u H locs hp hw => ?_)
    have hw : wH G A s.heap s L u H locs := hw
    rw [hp] at hw
    obtain ⟨f3, hf3⟩ : ∃ g, g = va_up f2 ww (eJ G 1440 (updB wr (24 * 0) (fun k => ((fun _ => 0 : Nat → Int32) (11 * j + k)).toInt64) 11)) := ⟨_, rfl⟩
    rw [← hf3] at hw
    have h3_x : f3 x = eO 8 fs1 := by rw [hf3, va_up_ne _ _ n_x_ww]; exact h2_x
    have h3_ww : f3 ww = eJ G 1440 (updB wr (24 * 0) (fun k => ((fun _ => 0 : Nat → Int32) (11 * j + k)).toInt64) 11) := by rw [hf3]; exact va_up_eq _ _ _
    have h3_dd : f3 dd = eI G 60 dr := by rw [hf3, va_up_ne _ _ n_dd_ww]; exact h2_dd
    have h3_ca : f3 ca = eI G 880 (fun _ => 0) := by rw [hf3, va_up_ne _ _ n_ca_ww]; exact h2_ca
    have ho3 : ∀ q : Nat, q ≠ x → q ≠ ww → q ≠ dd → q ≠ ca → f3 q = f q := fun q hq0 hq1 hq2 hq3 => (show f3 q = f2 q from by rw [hf3]; exact va_up_ne _ _ hq1).trans (ho2 q hq0 hq1 hq2 hq3)
    rw [show dgp (fun k => ((fun _ => 0 : Nat → Int32) (11 * j + k)).toInt64) 11 = 0 from dgp_0 (fun _ _ => rfl)] at hw
    obtain ⟨f4, hf4⟩ : ∃ g, g = va_up f3 dd (eI G 60 (upd dr 0 (nI 0 - nI 1))) := ⟨_, rfl⟩
    rw [← hf4] at hw
    have h4_x : f4 x = eO 8 fs1 := by rw [hf4, va_up_ne _ _ n_x_dd]; exact h3_x
    have h4_ww : f4 ww = eJ G 1440 (updB wr (24 * 0) (fun k => ((fun _ => 0 : Nat → Int32) (11 * j + k)).toInt64) 11) := by rw [hf4, va_up_ne _ _ n_ww_dd]; exact h3_ww
    have h4_dd : f4 dd = eI G 60 (upd dr 0 (nI 0 - nI 1)) := by rw [hf4]; exact va_up_eq _ _ _
    have h4_ca : f4 ca = eI G 880 (fun _ => 0) := by rw [hf4, va_up_ne _ _ n_ca_dd]; exact h3_ca
    have ho4 : ∀ q : Nat, q ≠ x → q ≠ ww → q ≠ dd → q ≠ ca → f4 q = f q := fun q hq0 hq1 hq2 hq3 => (show f4 q = f3 q from by rw [hf4]; exact va_up_ne _ _ hq2).trans (ho3 q hq0 hq1 hq2 hq3)
    refine lv_aload_n hx hb dX8_run_31 rfl (lv_at hl 0 rfl) ?_
    refine w_get (C := RX8) (T := TX8) (N := 18) (ci := 8) (ref := "LiftFactorsModel") (v := .ref dd) hx hb hts inX8_u hown hw hxL h4_x rfl 8 (by decide) u_28 rfl g1_8 dX8_run_32 ?_
    refine lv_iconst (v := nI 0) hx hb dX8_run_35 (by decide) ?_
    refine n_iald hx hb hw hdL h4_dd 0 (by omega) (by omega) dX8_run_36 ?_
    refine w_ti (show (upd dr 0 (nI 0 - nI 1)) 0 = nI 0 - nI 1 from by simp [upd]) ?_
    refine lv_istore_n (lv' := [(2, .int (nI 0 - nI 1)), (0, .ref x), (1, .int (nI j))]) hx hb dX8_run_37 rfl hl (by decide) rfl (fun ls hl => ?_)
    refine lv_iload_n hx hb dX8_run_38 rfl (lv_at hl 0 rfl) ?_
    refine lv_if_ge (tgt := 44) hx hb dX8_run_39 (by decide) (fun h => absurd h (by decide)) (fun _ => ?_)
    refine lv_iconst (v := (-1)) hx hb dX8_run_42 (by decide) ?_
    exact w_iret (lf := fun g => (L, g)) hx hb hr hlocks f4 hw (⟨fun _ => rfl, ⟨fs1, h4_x, g1_3⟩, ho4⟩) dX8_run_43
  · skip
    have hw : wH G A s.heap s L u H locs := hw
    rw [e10] at hw
    subst e9
    rw [inB_f (by decide) hno]
    refine lv_if_eq (tgt := 12) hx hb dX8_run_5 (by decide) (fun _ => ?_) (fun h => absurd (by decide) h)
    refine lv_iconst (v := nI 1) hx hb dX8_run_12 (by decide) ?_
    refine w_put (C := RX8) (T := TX8) (N := 18) (ci := 8) (ref := "LiftFactorsModel") (ty := .int) (v := .int (nI 1)) hx hb hts inX8_u tyX8 tyX8_ok nmX8 hown hw hxL hxo rfl 3 (by decide) u_26 rfl rfl (by decide +kernel) rfl rfl (by first | omega | decide) dX8_run_13 (fun H locs hw => ?_)
    obtain ⟨fs5, hz5⟩ : ∃ zz9, zz9 = fs.set 3 (.int (nI 1)) := ⟨_, rfl⟩
    rw [← hz5] at hw
    have hlen5 : fs5.length = 18 := by rw [hz5, List.length_set]; exact hfl
    have g5_1 : fs5[1]? = some (.ref ca) := by rw [hz5, List.getElem?_set_ne (by decide)]; exact hfs1
    have g5_2 : fs5[2]? = some (.int (nI 0)) := by rw [hz5, List.getElem?_set_ne (by decide)]; exact hfs2
    have g5_4 : fs5[4]? = some (.int (nI 0)) := by rw [hz5, List.getElem?_set_ne (by decide)]; exact hfs4
    have g5_7 : fs5[7]? = some (.ref ww) := by rw [hz5, List.getElem?_set_ne (by decide)]; exact hfs7
    have g5_8 : fs5[8]? = some (.ref dd) := by rw [hz5, List.getElem?_set_ne (by decide)]; exact hfs8
    have g5_3 : fs5[3]? = some (.int (nI 1)) := by rw [hz5, List.getElem?_set_self (by omega)]
    obtain ⟨f6, hf6⟩ : ∃ g, g = va_up f x (eO 8 fs5) := ⟨_, rfl⟩
    rw [← hf6] at hw
    have h6_x : f6 x = eO 8 fs5 := by rw [hf6]; exact va_up_eq _ _ _
    have h6_ww : f6 ww = eJ G 1440 wr := by rw [hf6, va_up_ne _ _ n_ww_x]; exact hww
    have h6_dd : f6 dd = eI G 60 dr := by rw [hf6, va_up_ne _ _ n_dd_x]; exact hdd
    have h6_ca : f6 ca = eI G 880 (fun _ => 0) := by rw [hf6, va_up_ne _ _ n_ca_x]; exact hca
    have ho6 : ∀ q : Nat, q ≠ x → q ≠ ww → q ≠ dd → q ≠ ca → f6 q = f q := fun q hq0 hq1 hq2 hq3 => (show f6 q = f q from by rw [hf6]; exact va_up_ne _ _ hq0).trans (ho0 q hq0 hq1 hq2 hq3)
    refine lv_aload_n hx hb dX8_run_16 rfl (lv_at hl 0 rfl) ?_
    refine w_get (C := RX8) (T := TX8) (N := 18) (ci := 8) (ref := "LiftFactorsModel") (v := .int (nI 1)) hx hb hts inX8_u hown hw hxL h6_x rfl 3 (by decide) u_26 rfl g5_3 dX8_run_17 ?_
    refine lv_if_eq (tgt := 25) hx hb dX8_run_20 (by decide) (fun h => absurd h (by decide)) (fun _ => ?_)
    refine lv_iconst (v := nI 0) hx hb dX8_run_23 (by decide) ?_
    exact w_iret (lf := fun g => (L, g)) hx hb hr hlocks f6 hw (⟨(fun h => Bool.noConfusion h), ⟨fs5, h6_x, g5_3⟩, ho6⟩) dX8_run_24
