theorem u_71 : Cond.methodLink RX8 211 yX8_refuses ∈ uU := uU_in (by decide +kernel) (by decide +kernel)
theorem u_72 : Cond.instanceMethod yX8_refuses ∈ uU := uU_in (by decide +kernel) (by decide +kernel)
theorem u_73 : Cond.selects yX8_refuses.cls yX8_refuses yX8_refuses ∈ uU := uU_in (by decide +kernel) (by decide +kernel)
theorem u_74 : Cond.initialized yX8_refuses.cls ∈ uU := uU_in (by decide +kernel) (by decide +kernel)
theorem u_75 : Cond.code yX8_refuses cX8_refuses 3 (some .boolean) ∈ uU := uU_in (by decide +kernel) (by decide +kernel)
theorem u_76 : Cond.methodLink RX8 199 yX8_great ∈ uU := uU_in (by decide +kernel) (by decide +kernel)
theorem u_77 : Cond.instanceMethod yX8_great ∈ uU := uU_in (by decide +kernel) (by decide +kernel)
theorem u_78 : Cond.selects yX8_great.cls yX8_great yX8_great ∈ uU := uU_in (by decide +kernel) (by decide +kernel)
theorem u_79 : Cond.initialized yX8_great.cls ∈ uU := uU_in (by decide +kernel) (by decide +kernel)
theorem u_80 : Cond.code yX8_great cX8_great 3 (some .boolean) ∈ uU := uU_in (by decide +kernel) (by decide +kernel)
theorem u_81 : Cond.methodLink RX8 72 yX8_copy ∈ uU := uU_in (by decide +kernel) (by decide +kernel)
theorem u_82 : Cond.instanceMethod yX8_copy ∈ uU := uU_in (by decide +kernel) (by decide +kernel)
theorem u_83 : Cond.selects yX8_copy.cls yX8_copy yX8_copy ∈ uU := uU_in (by decide +kernel) (by decide +kernel)
theorem u_84 : Cond.initialized yX8_copy.cls ∈ uU := uU_in (by decide +kernel) (by decide +kernel)
theorem u_85 : Cond.code yX8_copy cX8_copy 4 none ∈ uU := uU_in (by decide +kernel) (by decide +kernel)
theorem u_86 : Cond.methodLink RX8 223 yX8_isPrime ∈ uU := uU_in (by decide +kernel) (by decide +kernel)
theorem u_87 : Cond.static yX8_isPrime ∈ uU := uU_in (by decide +kernel) (by decide +kernel)
theorem u_88 : Cond.initialized yX8_isPrime.cls ∈ uU := uU_in (by decide +kernel) (by decide +kernel)
theorem u_89 : Cond.code yX8_isPrime cX8_isPrime 2 (some .boolean) ∈ uU := uU_in (by decide +kernel) (by decide +kernel)
theorem u_90 : Cond.fieldLink RX8 75 "LiftFactorsModel" "modulus" "J" ∈ uU := uU_in (by decide +kernel) (by decide +kernel)
theorem u_91 : Cond.methodLink RX8 113 yX8_reduce ∈ uU := uU_in (by decide +kernel) (by decide +kernel)
theorem u_92 : Cond.instanceMethod yX8_reduce ∈ uU := uU_in (by decide +kernel) (by decide +kernel)
theorem u_93 : Cond.selects yX8_reduce.cls yX8_reduce yX8_reduce ∈ uU := uU_in (by decide +kernel) (by decide +kernel)
theorem u_94 : Cond.initialized yX8_reduce.cls ∈ uU := uU_in (by decide +kernel) (by decide +kernel)
theorem u_95 : Cond.code yX8_reduce cX8_reduce 6 none ∈ uU := uU_in (by decide +kernel) (by decide +kernel)
theorem u_96 : Cond.constant RX8 226 (1000000) ∈ uU := uU_in (by decide +kernel) (by decide +kernel)
/-- behind a look-up that refused nothing: both rows are loaded, and 0 -/
def mS (G : gG) (f g : Nat → va_E) (x ww dd ca : Nat) : Prop := ∃ (fs : List Value) (wr : Nat → Int64) (dr : Nat → Int32), g x = eO 8 fs ∧ fs.length = 18 ∧ fs[1]? = some (.ref ca) ∧ fs[2]? = some (.int (nI 0)) ∧ fs[3]? = some (.int (nI 0)) ∧ fs[7]? = some (.ref ww) ∧ fs[8]? = some (.ref dd) ∧ g ww = eJ G 1440 wr ∧ g dd = eI G 60 dr ∧ g ca = eI G 880 (fun _ => 0) ∧ dr 0 = nI 0 - nI 1 ∧ dr 1 = nI 0 - nI 1 ∧ ∀ q : Nat, q ≠ x → q ≠ ww → q ≠ dd → q ≠ ca → g q = f q
theorem z_mul (y : Int64) : 0 * y + (0 : Int32).toInt64 = 0 := by
  rw [Int64.zero_mul]; rfl
theorem z_rem (y : Int64) : 0 - 0 / y * y = 0 := by
  rw [Int64.zero_div, Int64.zero_mul]; rfl
set_option maxRecDepth 100000 in
set_option maxHeartbeats 4000000 in
theorem z_X8_refuses (l : Launch) (G : gG) (L : List Nat) (f : Nat → va_E) (sz : Nat) (x ww dd ca : Nat) (hz : mZ G L f x ww dd ca) (v k : Int32) :
    Met l yX8_refuses (uW yX8_refuses cX8_refuses 3 (some .boolean)) { frames := 2, cells := 0, slots := 0, locals := 46 } (wIn G [.ref x, .int v, .int k] L f sz) (va_Qi (fun (r9 : Int32) (g : Nat → va_E) => ((inB v 80 && inB k 80) = true ∧ r9 = nI 0 ∧ mS G f g x ww dd ca) ∨ ((inB v 80 && inB k 80) = false ∧ r9 = nI 1 ∧ mO f g x ww dd ca (nI 1))) (fun g => wAt G (wA L f sz) L g) (wA L f sz)) 0 0 (wA L f sz) := by
  refine wEnter (by decide) (Nat.le_of_ble_eq_true rfl) ?_
  intro p e s m below meth c ls cx hinit hl hsz hw
  obtain ⟨hx, hb, hr, hml, hown, hts, hlocks⟩ := id cx
  have hown : s.vm.findClass RX8 = some m.cls := hown
  have hl : lv_has ls 3 [(0, .ref x), (1, .int v), (2, .int k)] := hl
  generalize wA L f sz = A at hw ⊢
  obtain ⟨fs, wr, dr, hxL, hxo, hfl, hfs1, hfs2, hfs3, hfs4, hfs7, hfs8, hwL, hww, hdL, hdd, hcL, hca, hcd⟩ := hz
  have n_x_ww : x ≠ ww := ne_E hww hxo (by simp)
  have n_x_dd : x ≠ dd := ne_E hdd hxo (by simp)
  have n_x_ca : x ≠ ca := ne_E hca hxo (by simp)
  have n_ww_x : ww ≠ x := ne_E hxo hww (by simp)
  have n_ww_dd : ww ≠ dd := ne_E hdd hww (by simp)
  have n_ww_ca : ww ≠ ca := ne_E hca hww (by simp)
  have n_dd_x : dd ≠ x := ne_E hxo hdd (by simp)
  have n_dd_ww : dd ≠ ww := ne_E hww hdd (by simp)
  have n_dd_ca : dd ≠ ca := hcd
  have n_ca_x : ca ≠ x := ne_E hxo hca (by simp)
  have n_ca_ww : ca ≠ ww := ne_E hww hca (by simp)
  have n_ca_dd : ca ≠ dd := (hcd).symm
  have ho0 : ∀ q : Nat, q ≠ x → q ≠ ww → q ≠ dd → q ≠ ca → f q = f q := fun q _ _ _ _ => rfl
  refine lv_aload_n hx hb dX8_refuses_0 rfl (lv_at hl 0 rfl) ?_
  refine lv_iload_n hx hb dX8_refuses_1 rfl (lv_at hl 1 rfl) ?_
  refine w_callSi (lf := fun g => (L, g)) (As := [.int v]) (rest := [.ref x]) cx.fix hw (c_X8_isPoly l G L f _ v) (w_cS 1 hts u_41 u_42 u_43 u_44 rfl rfl (by decide) (by decide)) hl.1 rfl (lv_room (Nat.le_of_ble_eq_true rfl)) dX8_refuses_2 (by decide) (fun r9 u H locs hp hw => ?_)
  rcases hp with ⟨⟨e9, j, hj, ejj⟩ | ⟨e9, hno⟩, e10⟩
  · skip
    have hw : wH G A s.heap s L u H locs := hw
    rw [e10] at hw
    subst e9
    subst ejj
    rw [inB_t (by decide) hj]
    refine lv_if_eq (tgt := 15) hx hb dX8_refuses_5 (by decide) (fun h => absurd h (by decide)) (fun _ => ?_)
    refine lv_iload_n hx hb dX8_refuses_8 rfl (lv_at hl 2 rfl) ?_
    refine w_callSi (lf := fun g => (L, g)) (As := [.int k]) (rest := [.ref x]) cx.fix hw (c_X8_isPoly l G L f _ k) (w_cS 1 hts u_41 u_42 u_43 u_44 rfl rfl (by decide) (by decide)) hl.1 rfl (lv_room (Nat.le_of_ble_eq_true rfl)) dX8_refuses_9 (by decide) (fun r9 u H locs hp hw => ?_)
    rcases hp with ⟨⟨e9, k2, hk2, ejk2⟩ | ⟨e9, hno⟩, e10⟩
    · skip
      have hw : wH G A s.heap s L u H locs := hw
      rw [e10] at hw
      subst e9
      subst ejk2
      rw [inB_t (by decide) hk2]
      refine lv_if_ne (tgt := 19) hx hb dX8_refuses_12 (by decide) (fun _ => ?_) (fun h => absurd h (by decide))
      refine lv_aload_n hx hb dX8_refuses_19 rfl (lv_at hl 0 rfl) ?_
      refine w_get (C := RX8) (T := TX8) (N := 18) (ci := 8) (ref := "LiftFactorsModel") (v := .int (nI 0)) hx hb hts inX8_u hown hw hxL hxo rfl 2 (by decide) u_35 rfl hfs2 dX8_refuses_20 ?_
      refine lv_bipush (v := nI 80) hx hb dX8_refuses_23 (by decide) ?_
      refine lv_icmp_ne (tgt := 32) hx hb dX8_refuses_25 (by decide) (fun _ => ?_) (fun h => absurd h (by decide))
      refine lv_iconst (v := nI 0) hx hb dX8_refuses_32 (by decide) ?_
      refine w_put (C := RX8) (T := TX8) (N := 18) (ci := 8) (ref := "LiftFactorsModel") (ty := .int) (v := .int (nI 0)) hx hb hts inX8_u tyX8 tyX8_ok nmX8 hown hw hxL hxo rfl 3 (by decide) u_26 rfl rfl (by decide +kernel) rfl rfl (by first | omega | decide) dX8_refuses_33 (fun H locs hw => ?_)
      obtain ⟨fs1, hz1⟩ : ∃ zz9, zz9 = fs.set 3 (.int (nI 0)) := ⟨_, rfl⟩
      rw [← hz1] at hw
      have hlen1 : fs1.length = 18 := by rw [hz1, List.length_set]; exact hfl
      have g1_1 : fs1[1]? = some (.ref ca) := by rw [hz1, List.getElem?_set_ne (by decide)]; exact hfs1
      have g1_2 : fs1[2]? = some (.int (nI 0)) := by rw [hz1, List.getElem?_set_ne (by decide)]; exact hfs2
      have g1_4 : fs1[4]? = some (.int (nI 0)) := by rw [hz1, List.getElem?_set_ne (by decide)]; exact hfs4
      have g1_7 : fs1[7]? = some (.ref ww) := by rw [hz1, List.getElem?_set_ne (by decide)]; exact hfs7
      have g1_8 : fs1[8]? = some (.ref dd) := by rw [hz1, List.getElem?_set_ne (by decide)]; exact hfs8
      have g1_3 : fs1[3]? = some (.int (nI 0)) := by rw [hz1, List.getElem?_set_self (by omega)]
      obtain ⟨f2, hf2⟩ : ∃ g, g = va_up f x (eO 8 fs1) := ⟨_, rfl⟩
      rw [← hf2] at hw
      have h2_x : f2 x = eO 8 fs1 := by rw [hf2]; exact va_up_eq _ _ _
      have h2_ww : f2 ww = eJ G 1440 wr := by rw [hf2, va_up_ne _ _ n_ww_x]; exact hww
      have h2_dd : f2 dd = eI G 60 dr := by rw [hf2, va_up_ne _ _ n_dd_x]; exact hdd
      have h2_ca : f2 ca = eI G 880 (fun _ => 0) := by rw [hf2, va_up_ne _ _ n_ca_x]; exact hca
      have ho2 : ∀ q : Nat, q ≠ x → q ≠ ww → q ≠ dd → q ≠ ca → f2 q = f q := fun q hq0 hq1 hq2 hq3 => (show f2 q = f q from by rw [hf2]; exact va_up_ne _ _ hq0).trans (ho0 q hq0 hq1 hq2 hq3)
      refine lv_aload_n hx hb dX8_refuses_36 rfl (lv_at hl 0 rfl) ?_
      refine w_get (C := RX8) (T := TX8) (N := 18) (ci := 8) (ref := "LiftFactorsModel") (v := .int (nI 0)) hx hb hts inX8_u hown hw hxL h2_x rfl 3 (by decide) u_26 rfl g1_3 dX8_refuses_37 ?_
      refine lv_if_eq (tgt := 45) hx hb dX8_refuses_40 (by decide) (fun _ => ?_) (fun h => absurd (by decide) h)
      refine lv_aload_n hx hb dX8_refuses_45 rfl (lv_at hl 0 rfl) ?_
      refine lv_iload_n hx hb dX8_refuses_46 rfl (lv_at hl 1 rfl) ?_
      refine lv_iconst (v := nI 0) hx hb dX8_refuses_47 (by decide) ?_
      refine w_callVv (lf := fun g => (L, g)) (As := [.int (nI j), .int (nI 0)]) (rest := []) cx.fix hw (c_X8_load l G L f2 _ x ww dd ca 0 j fs1 wr dr (fun _ => 0) hxL h2_x g1_1 g1_7 g1_8 hwL h2_ww hdL h2_dd hcL h2_ca (by decide) hj) hxL h2_x rfl rfl (w_cV 2 hts u_45 u_46 u_47 u_48 u_49 rfl rfl (by decide) (by decide)) hl.1 rfl (lv_room (Nat.le_of_ble_eq_true rfl)) dX8_refuses_48 (by decide) (fun u H locs hp hw => ?_)
      have hw : wH G A s.heap s L u H locs := hw
      rw [hp] at hw
      obtain ⟨f3, hf3⟩ : ∃ g, g = va_up f2 ww (eJ G 1440 (updB wr (24 * 0) (fun k => ((fun _ => 0 : Nat → Int32) (11 * j + k)).toInt64) 11)) := ⟨_, rfl⟩
      rw [← hf3] at hw
      have h3_x : f3 x = eO 8 fs1 := by rw [hf3, va_up_ne _ _ n_x_ww]; exact h2_x
      have h3_ww : f3 ww = eJ G 1440 (updB wr (24 * 0) (fun k => ((fun _ => 0 : Nat → Int32) (11 * j + k)).toInt64) 11) := by rw [hf3]; exact va_up_eq _ _ _
      have h3_dd : f3 dd = eI G 60 dr := by rw [hf3, va_up_ne _ _ n_dd_ww]; exact h2_dd
      have h3_ca : f3 ca = eI G 880 (fun _ => 0) := by rw [hf3, va_up_ne _ _ n_ca_ww]; exact h2_ca
      have ho3 : ∀ q : Nat, q ≠ x → q ≠ ww → q ≠ dd → q ≠ ca → f3 q = f q := fun q hq0 hq1 hq2 hq3 => (show f3 q = f2 q from by rw [hf3]; exact va_up_ne _ _ hq1).trans (ho2 q hq0 hq1 hq2 hq3)
      rw [show dgp (fun k => ((fun _ => 0 : Nat → Int32) (11 * j + k)).toInt64) 11 = 0 from dgp_0 (fun _ _ => rfl)] at hw
      obtain ⟨f4, hf4⟩ : ∃ g, g = va_up f3 dd (eI G 60 (upd dr 0 (nI 0 - nI 1))) := ⟨_, rfl⟩
      rw [← hf4] at hw
      have h4_x : f4 x = eO 8 fs1 := by rw [hf4, va_up_ne _ _ n_x_dd]; exact h3_x
      have h4_ww : f4 ww = eJ G 1440 (updB wr (24 * 0) (fun k => ((fun _ => 0 : Nat → Int32) (11 * j + k)).toInt64) 11) := by rw [hf4, va_up_ne _ _ n_ww_dd]; exact h3_ww
      have h4_dd : f4 dd = eI G 60 (upd dr 0 (nI 0 - nI 1)) := by rw [hf4]; exact va_up_eq _ _ _
      have h4_ca : f4 ca = eI G 880 (fun _ => 0) := by rw [hf4, va_up_ne _ _ n_ca_dd]; exact h3_ca
      have ho4 : ∀ q : Nat, q ≠ x → q ≠ ww → q ≠ dd → q ≠ ca → f4 q = f q := fun q hq0 hq1 hq2 hq3 => (show f4 q = f3 q from by rw [hf4]; exact va_up_ne _ _ hq2).trans (ho3 q hq0 hq1 hq2 hq3)
      refine lv_aload_n hx hb dX8_refuses_51 rfl (lv_at hl 0 rfl) ?_
      refine lv_iload_n hx hb dX8_refuses_52 rfl (lv_at hl 2 rfl) ?_
      refine lv_iconst (v := nI 1) hx hb dX8_refuses_53 (by decide) ?_
      refine w_callVv (lf := fun g => (L, g)) (As := [.int (nI k2), .int (nI 1)]) (rest := []) cx.fix hw (c_X8_load l G L f4 _ x ww dd ca 1 k2 fs1 (updB wr (24 * 0) (fun k => ((fun _ => 0 : Nat → Int32) (11 * j + k)).toInt64) 11) (upd dr 0 (nI 0 - nI 1)) (fun _ => 0) hxL h4_x g1_1 g1_7 g1_8 hwL h4_ww hdL h4_dd hcL h4_ca (by decide) hk2) hxL h4_x rfl rfl (w_cV 2 hts u_45 u_46 u_47 u_48 u_49 rfl rfl (by decide) (by decide)) hl.1 rfl (lv_room (Nat.le_of_ble_eq_true rfl)) dX8_refuses_54 (by decide) (fun u H locs hp hw => ?_)
      have hw : wH G A s.heap s L u H locs := hw
      rw [hp] at hw
      obtain ⟨f5, hf5⟩ : ∃ g, g = va_up f4 ww (eJ G 1440 (updB (updB wr (24 * 0) (fun k => ((fun _ => 0 : Nat → Int32) (11 * j + k)).toInt64) 11) (24 * 1) (fun k => ((fun _ => 0 : Nat → Int32) (11 * k2 + k)).toInt64) 11)) := ⟨_, rfl⟩
      rw [← hf5] at hw
      have h5_x : f5 x = eO 8 fs1 := by rw [hf5, va_up_ne _ _ n_x_ww]; exact h4_x
      have h5_ww : f5 ww = eJ G 1440 (updB (updB wr (24 * 0) (fun k => ((fun _ => 0 : Nat → Int32) (11 * j + k)).toInt64) 11) (24 * 1) (fun k => ((fun _ => 0 : Nat → Int32) (11 * k2 + k)).toInt64) 11) := by rw [hf5]; exact va_up_eq _ _ _
      have h5_dd : f5 dd = eI G 60 (upd dr 0 (nI 0 - nI 1)) := by rw [hf5, va_up_ne _ _ n_dd_ww]; exact h4_dd
      have h5_ca : f5 ca = eI G 880 (fun _ => 0) := by rw [hf5, va_up_ne _ _ n_ca_ww]; exact h4_ca
      have ho5 : ∀ q : Nat, q ≠ x → q ≠ ww → q ≠ dd → q ≠ ca → f5 q = f q := fun q hq0 hq1 hq2 hq3 => (show f5 q = f4 q from by rw [hf5]; exact va_up_ne _ _ hq1).trans (ho4 q hq0 hq1 hq2 hq3)
      rw [show dgp (fun k => ((fun _ => 0 : Nat → Int32) (11 * k2 + k)).toInt64) 11 = 0 from dgp_0 (fun _ _ => rfl)] at hw
      obtain ⟨f6, hf6⟩ : ∃ g, g = va_up f5 dd (eI G 60 (upd (upd dr 0 (nI 0 - nI 1)) 1 (nI 0 - nI 1))) := ⟨_, rfl⟩
      rw [← hf6] at hw
      have h6_x : f6 x = eO 8 fs1 := by rw [hf6, va_up_ne _ _ n_x_dd]; exact h5_x
      have h6_ww : f6 ww = eJ G 1440 (updB (updB wr (24 * 0) (fun k => ((fun _ => 0 : Nat → Int32) (11 * j + k)).toInt64) 11) (24 * 1) (fun k => ((fun _ => 0 : Nat → Int32) (11 * k2 + k)).toInt64) 11) := by rw [hf6, va_up_ne _ _ n_ww_dd]; exact h5_ww
      have h6_dd : f6 dd = eI G 60 (upd (upd dr 0 (nI 0 - nI 1)) 1 (nI 0 - nI 1)) := by rw [hf6]; exact va_up_eq _ _ _
      have h6_ca : f6 ca = eI G 880 (fun _ => 0) := by rw [hf6, va_up_ne _ _ n_ca_dd]; exact h5_ca
      have ho6 : ∀ q : Nat, q ≠ x → q ≠ ww → q ≠ dd → q ≠ ca → f6 q = f q := fun q hq0 hq1 hq2 hq3 => (show f6 q = f5 q from by rw [hf6]; exact va_up_ne _ _ hq2).trans (ho5 q hq0 hq1 hq2 hq3)
      refine lv_iconst (v := nI 0) hx hb dX8_refuses_57 (by decide) ?_
      exact w_zret (lf := fun g => (L, g)) hx hb hr hlocks (by first | rfl | decide) f6 hw (Or.inl ⟨rfl, rfl, fs1, (updB (updB wr (24 * 0) (fun k => ((fun _ => 0 : Nat → Int32) (11 * j + k)).toInt64) 11) (24 * 1) (fun k => ((fun _ => 0 : Nat → Int32) (11 * k2 + k)).toInt64) 11), (upd (upd dr 0 (nI 0 - nI 1)) 1 (nI 0 - nI 1)), h6_x, hlen1, g1_1, g1_2, g1_3, g1_7, g1_8, h6_ww, h6_dd, h6_ca, by simp [upd], by simp [upd], ho6⟩) dX8_refuses_58
    · skip
      have hw : wH G A s.heap s L u H locs := hw
      rw [e10] at hw
      subst e9
      rw [inB_f (by decide) hno]
      refine lv_if_ne (tgt := 19) hx hb dX8_refuses_12 (by decide) (fun h => absurd (by decide) h) (fun _ => ?_)
      refine lv_iconst (v := nI 1) hx hb dX8_refuses_15 (by decide) ?_
      refine lv_goto (tgt := 33) hx hb dX8_refuses_16 (by decide) ?_
      refine w_put (C := RX8) (T := TX8) (N := 18) (ci := 8) (ref := "LiftFactorsModel") (ty := .int) (v := .int (nI 1)) hx hb hts inX8_u tyX8 tyX8_ok nmX8 hown hw hxL hxo rfl 3 (by decide) u_26 rfl rfl (by decide +kernel) rfl rfl (by first | omega | decide) dX8_refuses_33 (fun H locs hw => ?_)
      obtain ⟨fs7, hz7⟩ : ∃ zz9, zz9 = fs.set 3 (.int (nI 1)) := ⟨_, rfl⟩
      rw [← hz7] at hw
      have hlen7 : fs7.length = 18 := by rw [hz7, List.length_set]; exact hfl
      have g7_1 : fs7[1]? = some (.ref ca) := by rw [hz7, List.getElem?_set_ne (by decide)]; exact hfs1
      have g7_2 : fs7[2]? = some (.int (nI 0)) := by rw [hz7, List.getElem?_set_ne (by decide)]; exact hfs2
      have g7_4 : fs7[4]? = some (.int (nI 0)) := by rw [hz7, List.getElem?_set_ne (by decide)]; exact hfs4
      have g7_7 : fs7[7]? = some (.ref ww) := by rw [hz7, List.getElem?_set_ne (by decide)]; exact hfs7
      have g7_8 : fs7[8]? = some (.ref dd) := by rw [hz7, List.getElem?_set_ne (by decide)]; exact hfs8
      have g7_3 : fs7[3]? = some (.int (nI 1)) := by rw [hz7, List.getElem?_set_self (by omega)]
      obtain ⟨f8, hf8⟩ : ∃ g, g = va_up f x (eO 8 fs7) := ⟨_, rfl⟩
      rw [← hf8] at hw
      have h8_x : f8 x = eO 8 fs7 := by rw [hf8]; exact va_up_eq _ _ _
      have h8_ww : f8 ww = eJ G 1440 wr := by rw [hf8, va_up_ne _ _ n_ww_x]; exact hww
      have h8_dd : f8 dd = eI G 60 dr := by rw [hf8, va_up_ne _ _ n_dd_x]; exact hdd
      have h8_ca : f8 ca = eI G 880 (fun _ => 0) := by rw [hf8, va_up_ne _ _ n_ca_x]; exact hca
      have ho8 : ∀ q : Nat, q ≠ x → q ≠ ww → q ≠ dd → q ≠ ca → f8 q = f q := fun q hq0 hq1 hq2 hq3 => (show f8 q = f q from by rw [hf8]; exact va_up_ne _ _ hq0).trans (ho0 q hq0 hq1 hq2 hq3)
      refine lv_aload_n hx hb dX8_refuses_36 rfl (lv_at hl 0 rfl) ?_
      refine w_get (C := RX8) (T := TX8) (N := 18) (ci := 8) (ref := "LiftFactorsModel") (v := .int (nI 1)) hx hb hts inX8_u hown hw hxL h8_x rfl 3 (by decide) u_26 rfl g7_3 dX8_refuses_37 ?_
      refine lv_if_eq (tgt := 45) hx hb dX8_refuses_40 (by decide) (fun h => absurd h (by decide)) (fun _ => ?_)
      refine lv_iconst (v := nI 1) hx hb dX8_refuses_43 (by decide) ?_
      exact w_zret (lf := fun g => (L, g)) hx hb hr hlocks (by first | rfl | decide) f8 hw (Or.inr ⟨rfl, rfl, ⟨fs7, h8_x, g7_3⟩, ho8⟩) dX8_refuses_44
  · skip
    have hw : wH G A s.heap s L u H locs := hw
    rw [e10] at hw
    subst e9
    rw [inB_f (by decide) hno]
    refine lv_if_eq (tgt := 15) hx hb dX8_refuses_5 (by decide) (fun _ => ?_) (fun h => absurd (by decide) h)
    refine lv_iconst (v := nI 1) hx hb dX8_refuses_15 (by decide) ?_
    refine lv_goto (tgt := 33) hx hb dX8_refuses_16 (by decide) ?_
    refine w_put (C := RX8) (T := TX8) (N := 18) (ci := 8) (ref := "LiftFactorsModel") (ty := .int) (v := .int (nI 1)) hx hb hts inX8_u tyX8 tyX8_ok nmX8 hown hw hxL hxo rfl 3 (by decide) u_26 rfl rfl (by decide +kernel) rfl rfl (by first | omega | decide) dX8_refuses_33 (fun H locs hw => ?_)
    obtain ⟨fs9, hz9⟩ : ∃ zz9, zz9 = fs.set 3 (.int (nI 1)) := ⟨_, rfl⟩
    rw [← hz9] at hw
    have hlen9 : fs9.length = 18 := by rw [hz9, List.length_set]; exact hfl
    have g9_1 : fs9[1]? = some (.ref ca) := by rw [hz9, List.getElem?_set_ne (by decide)]; exact hfs1
    have g9_2 : fs9[2]? = some (.int (nI 0)) := by rw [hz9, List.getElem?_set_ne (by decide)]; exact hfs2
    have g9_4 : fs9[4]? = some (.int (nI 0)) := by rw [hz9, List.getElem?_set_ne (by decide)]; exact hfs4
    have g9_7 : fs9[7]? = some (.ref ww) := by rw [hz9, List.getElem?_set_ne (by decide)]; exact hfs7
    have g9_8 : fs9[8]? = some (.ref dd) := by rw [hz9, List.getElem?_set_ne (by decide)]; exact hfs8
    have g9_3 : fs9[3]? = some (.int (nI 1)) := by rw [hz9, List.getElem?_set_self (by omega)]
    obtain ⟨f10, hf10⟩ : ∃ g, g = va_up f x (eO 8 fs9) := ⟨_, rfl⟩
    rw [← hf10] at hw
    have h10_x : f10 x = eO 8 fs9 := by rw [hf10]; exact va_up_eq _ _ _
    have h10_ww : f10 ww = eJ G 1440 wr := by rw [hf10, va_up_ne _ _ n_ww_x]; exact hww
    have h10_dd : f10 dd = eI G 60 dr := by rw [hf10, va_up_ne _ _ n_dd_x]; exact hdd
    have h10_ca : f10 ca = eI G 880 (fun _ => 0) := by rw [hf10, va_up_ne _ _ n_ca_x]; exact hca
    have ho10 : ∀ q : Nat, q ≠ x → q ≠ ww → q ≠ dd → q ≠ ca → f10 q = f q := fun q hq0 hq1 hq2 hq3 => (show f10 q = f q from by rw [hf10]; exact va_up_ne _ _ hq0).trans (ho0 q hq0 hq1 hq2 hq3)
    refine lv_aload_n hx hb dX8_refuses_36 rfl (lv_at hl 0 rfl) ?_
    refine w_get (C := RX8) (T := TX8) (N := 18) (ci := 8) (ref := "LiftFactorsModel") (v := .int (nI 1)) hx hb hts inX8_u hown hw hxL h10_x rfl 3 (by decide) u_26 rfl g9_3 dX8_refuses_37 ?_
    refine lv_if_eq (tgt := 45) hx hb dX8_refuses_40 (by decide) (fun h => absurd h (by decide)) (fun _ => ?_)
    refine lv_iconst (v := nI 1) hx hb dX8_refuses_43 (by decide) ?_
    exact w_zret (lf := fun g => (L, g)) hx hb hr hlocks (by first | rfl | decide) f10 hw (Or.inr ⟨rfl, rfl, ⟨fs9, h10_x, g9_3⟩, ho10⟩) dX8_refuses_44
set_option maxRecDepth 100000 in
set_option maxHeartbeats 4000000 in
theorem z_X8_over (l : Launch) (G : gG) (L : List Nat) (f : Nat → va_E) (sz : Nat) (x ww dd ca : Nat) (hz : mZ G L f x ww dd ca) (v k : Int32) :
    Met l yX8_over (uW yX8_over cX8_over 3 (some .int)) { frames := 3, cells := 0, slots := 0, locals := 68 } (wIn G [.ref x, .int v, .int k] L f sz) (va_Qi (fun (r9 : Int32) (g : Nat → va_E) => ((inB v 80 && inB k 80) = true ∧ mO f g x ww dd ca (nI 3)) ∨ ((inB v 80 && inB k 80) = false ∧ mO f g x ww dd ca (nI 1))) (fun g => wAt G (wA L f sz) L g) (wA L f sz)) 0 0 (wA L f sz) := by
  refine wEnter (by decide) (Nat.le_of_ble_eq_true rfl) ?_
  intro p e s m below meth c ls cx hinit hl hsz hw
  obtain ⟨hx, hb, hr, hml, hown, hts, hlocks⟩ := id cx
  have hown : s.vm.findClass RX8 = some m.cls := hown
  have hl : lv_has ls 3 [(0, .ref x), (1, .int v), (2, .int k)] := hl
  generalize wA L f sz = A at hw ⊢
  obtain ⟨fs, wr, dr, hxL, hxo, hfl, hfs1, hfs2, hfs3, hfs4, hfs7, hfs8, hwL, hww, hdL, hdd, hcL, hca, hcd⟩ := hz
  have n_x_ww : x ≠ ww := ne_E hww hxo (by simp)
  have n_x_dd : x ≠ dd := ne_E hdd hxo (by simp)
  have n_x_ca : x ≠ ca := ne_E hca hxo (by simp)
  have n_ww_x : ww ≠ x := ne_E hxo hww (by simp)
  have n_ww_dd : ww ≠ dd := ne_E hdd hww (by simp)
  have n_ww_ca : ww ≠ ca := ne_E hca hww (by simp)
  have n_dd_x : dd ≠ x := ne_E hxo hdd (by simp)
  have n_dd_ww : dd ≠ ww := ne_E hww hdd (by simp)
  have n_dd_ca : dd ≠ ca := hcd
  have n_ca_x : ca ≠ x := ne_E hxo hca (by simp)
  have n_ca_ww : ca ≠ ww := ne_E hww hca (by simp)
  have n_ca_dd : ca ≠ dd := (hcd).symm
  have ho0 : ∀ q : Nat, q ≠ x → q ≠ ww → q ≠ dd → q ≠ ca → f q = f q := fun q _ _ _ _ => rfl
  refine lv_aload_n hx hb dX8_over_0 rfl (lv_at hl 0 rfl) ?_
  refine lv_iload_n hx hb dX8_over_1 rfl (lv_at hl 1 rfl) ?_
  refine lv_iload_n hx hb dX8_over_2 rfl (lv_at hl 2 rfl) ?_
  refine w_callVi (lf := fun g => (L, g)) (As := [.int v, .int k]) (rest := []) cx.fix hw (z_X8_refuses l G L f _ x ww dd ca ⟨fs, wr, dr, hxL, hxo, hfl, hfs1, hfs2, hfs3, hfs4, hfs7, hfs8, hwL, hww, hdL, hdd, hcL, hca, hcd⟩ v k) hxL hxo rfl rfl (w_cV 2 hts u_71 u_72 u_73 u_74 u_75 rfl rfl (by decide) (by decide)) hl.1 rfl (lv_room (Nat.le_of_ble_eq_true rfl)) dX8_over_3 (by decide) (fun r9 u1 H locs hp hw => ?_)
  rcases hp with ⟨hin, e9, fs2, wr2, dr2, hxo2, hfl2, hg1, hg2, hg3, hg7, hg8, hww2, hdd2, hca2, hd0, hd1, ho2⟩ | ⟨hin, e9, hmo⟩
  · skip
    have hw : wH G A s.heap s L u1 H locs := hw
    subst e9
    refine lv_if_eq (tgt := 11) hx hb dX8_over_6 (by decide) (fun _ => ?_) (fun h => absurd (by decide) h)
    refine lv_aload_n hx hb dX8_over_11 rfl (lv_at hl 0 rfl) ?_
    refine lv_aload_n hx hb dX8_over_12 rfl (lv_at hl 0 rfl) ?_
    refine w_get (C := RX8) (T := TX8) (N := 18) (ci := 8) (ref := "LiftFactorsModel") (v := .ref dd) hx hb hts inX8_u hown hw hxL hxo2 rfl 8 (by decide) u_28 rfl hg8 dX8_over_13 ?_
    refine lv_iconst (v := nI 1) hx hb dX8_over_16 (by decide) ?_
    refine n_iald hx hb hw hdL hdd2 1 (by omega) (by omega) dX8_over_17 ?_
    refine w_ti hd1 ?_
    refine lv_if_ge (tgt := 25) hx hb dX8_over_18 (by decide) (fun h => absurd h (by decide)) (fun _ => ?_)
    refine lv_iconst (v := nI 3) hx hb dX8_over_21 (by decide) ?_
    refine lv_goto (tgt := 26) hx hb dX8_over_22 (by decide) ?_
    refine w_put (C := RX8) (T := TX8) (N := 18) (ci := 8) (ref := "LiftFactorsModel") (ty := .int) (v := .int (nI 3)) hx hb hts inX8_u tyX8 tyX8_ok nmX8 hown hw hxL hxo2 rfl 3 (by decide) u_26 rfl rfl (by decide +kernel) rfl rfl (by first | omega | decide) dX8_over_26 (fun H locs hw => ?_)
    obtain ⟨fs1, hz1⟩ : ∃ zz9, zz9 = fs2.set 3 (.int (nI 3)) := ⟨_, rfl⟩
    rw [← hz1] at hw
    have hlen1 : fs1.length = 18 := by rw [hz1, List.length_set]; exact hfl2
    have g1_1 : fs1[1]? = some (.ref ca) := by rw [hz1, List.getElem?_set_ne (by decide)]; exact hg1
    have g1_2 : fs1[2]? = some (.int (nI 0)) := by rw [hz1, List.getElem?_set_ne (by decide)]; exact hg2
    have g1_7 : fs1[7]? = some (.ref ww) := by rw [hz1, List.getElem?_set_ne (by decide)]; exact hg7
    have g1_8 : fs1[8]? = some (.ref dd) := by rw [hz1, List.getElem?_set_ne (by decide)]; exact hg8
    have g1_3 : fs1[3]? = some (.int (nI 3)) := by rw [hz1, List.getElem?_set_self (by omega)]
    obtain ⟨f2, hf2⟩ : ∃ g, g = va_up u1 x (eO 8 fs1) := ⟨_, rfl⟩
    rw [← hf2] at hw
    have h2_x : f2 x = eO 8 fs1 := by rw [hf2]; exact va_up_eq _ _ _
    have h2_ww : f2 ww = eJ G 1440 wr2 := by rw [hf2, va_up_ne _ _ n_ww_x]; exact hww2
    have h2_dd : f2 dd = eI G 60 dr2 := by rw [hf2, va_up_ne _ _ n_dd_x]; exact hdd2
    have h2_ca : f2 ca = eI G 880 (fun _ => 0) := by rw [hf2, va_up_ne _ _ n_ca_x]; exact hca2
    have ho2 : ∀ q : Nat, q ≠ x → q ≠ ww → q ≠ dd → q ≠ ca → f2 q = f q := fun q hq0 hq1 hq2 hq3 => (show f2 q = u1 q from by rw [hf2]; exact va_up_ne _ _ hq0).trans (ho2 q hq0 hq1 hq2 hq3)
    refine lv_aload_n hx hb dX8_over_29 rfl (lv_at hl 0 rfl) ?_
    refine w_get (C := RX8) (T := TX8) (N := 18) (ci := 8) (ref := "LiftFactorsModel") (v := .int (nI 3)) hx hb hts inX8_u hown hw hxL h2_x rfl 3 (by decide) u_26 rfl g1_3 dX8_over_30 ?_
    refine lv_if_eq (tgt := 38) hx hb dX8_over_33 (by decide) (fun h => absurd h (by decide)) (fun _ => ?_)
    refine lv_iconst (v := nI 0) hx hb dX8_over_36 (by decide) ?_
    exact w_iret (lf := fun g => (L, g)) hx hb hr hlocks f2 hw (Or.inl ⟨hin, ⟨fs1, h2_x, g1_3⟩, ho2⟩) dX8_over_37
  · skip
    have hw : wH G A s.heap s L u1 H locs := hw
    subst e9
    refine lv_if_eq (tgt := 11) hx hb dX8_over_6 (by decide) (fun h => absurd h (by decide)) (fun _ => ?_)
    refine lv_iconst (v := nI 0) hx hb dX8_over_9 (by decide) ?_
    exact w_iret (lf := fun g => (L, g)) hx hb hr hlocks u1 hw (Or.inr ⟨hin, hmo⟩) dX8_over_10
set_option maxRecDepth 100000 in
set_option maxHeartbeats 4000000 in
theorem z_X8_times (l : Launch) (G : gG) (L : List Nat) (f : Nat → va_E) (sz : Nat) (x ww dd ca : Nat) (hz : mZ G L f x ww dd ca) (v k : Int32) :
    Met l yX8_times (uW yX8_times cX8_times 6 (some .int)) { frames := 3, cells := 0, slots := 0, locals := 68 } (wIn G [.ref x, .int v, .int k] L f sz) (va_Qi (fun (r9 : Int32) (g : Nat → va_E) => ((inB v 80 && inB k 80) = true ∧ r9 = nI 0 ∧ mO f g x ww dd ca (nI 0)) ∨ ((inB v 80 && inB k 80) = false ∧ mO f g x ww dd ca (nI 1))) (fun g => wAt G (wA L f sz) L g) (wA L f sz)) 0 0 (wA L f sz) := by
  refine wEnter (by decide) (Nat.le_of_ble_eq_true rfl) ?_
  intro p e s m below meth c ls cx hinit hl hsz hw
  obtain ⟨hx, hb, hr, hml, hown, hts, hlocks⟩ := id cx
  have hown : s.vm.findClass RX8 = some m.cls := hown
  have hl : lv_has ls 6 [(0, .ref x), (1, .int v), (2, .int k)] := hl
  generalize wA L f sz = A at hw ⊢
  obtain ⟨fs, wr, dr, hxL, hxo, hfl, hfs1, hfs2, hfs3, hfs4, hfs7, hfs8, hwL, hww, hdL, hdd, hcL, hca, hcd⟩ := hz
  have n_x_ww : x ≠ ww := ne_E hww hxo (by simp)
  have n_x_dd : x ≠ dd := ne_E hdd hxo (by simp)
  have n_x_ca : x ≠ ca := ne_E hca hxo (by simp)
  have n_ww_x : ww ≠ x := ne_E hxo hww (by simp)
  have n_ww_dd : ww ≠ dd := ne_E hdd hww (by simp)
  have n_ww_ca : ww ≠ ca := ne_E hca hww (by simp)
  have n_dd_x : dd ≠ x := ne_E hxo hdd (by simp)
  have n_dd_ww : dd ≠ ww := ne_E hww hdd (by simp)
  have n_dd_ca : dd ≠ ca := hcd
  have n_ca_x : ca ≠ x := ne_E hxo hca (by simp)
  have n_ca_ww : ca ≠ ww := ne_E hww hca (by simp)
  have n_ca_dd : ca ≠ dd := (hcd).symm
  have ho0 : ∀ q : Nat, q ≠ x → q ≠ ww → q ≠ dd → q ≠ ca → f q = f q := fun q _ _ _ _ => rfl
  refine lv_aload_n hx hb dX8_times_0 rfl (lv_at hl 0 rfl) ?_
  refine lv_iload_n hx hb dX8_times_1 rfl (lv_at hl 1 rfl) ?_
  refine lv_iload_n hx hb dX8_times_2 rfl (lv_at hl 2 rfl) ?_
  refine w_callVi (lf := fun g => (L, g)) (As := [.int v, .int k]) (rest := []) cx.fix hw (z_X8_refuses l G L f _ x ww dd ca ⟨fs, wr, dr, hxL, hxo, hfl, hfs1, hfs2, hfs3, hfs4, hfs7, hfs8, hwL, hww, hdL, hdd, hcL, hca, hcd⟩ v k) hxL hxo rfl rfl (w_cV 2 hts u_71 u_72 u_73 u_74 u_75 rfl rfl (by decide) (by decide)) hl.1 rfl (lv_room (Nat.le_of_ble_eq_true rfl)) dX8_times_3 (by decide) (fun r9 u1 H locs hp hw => ?_)
  rcases hp with ⟨hin, e9, fs2, wr2, dr2, hxo2, hfl2, hg1, hg2, hg3, hg7, hg8, hww2, hdd2, hca2, hd0, hd1, ho2⟩ | ⟨hin, e9, hmo⟩
  · skip
    have hw : wH G A s.heap s L u1 H locs := hw
    subst e9
    refine lv_if_eq (tgt := 11) hx hb dX8_times_6 (by decide) (fun _ => ?_) (fun h => absurd (by decide) h)
    refine lv_aload_n hx hb dX8_times_11 rfl (lv_at hl 0 rfl) ?_
    refine w_get (C := RX8) (T := TX8) (N := 18) (ci := 8) (ref := "LiftFactorsModel") (v := .ref dd) hx hb hts inX8_u hown hw hxL hxo2 rfl 8 (by decide) u_28 rfl hg8 dX8_times_12 ?_
    refine lv_iconst (v := nI 0) hx hb dX8_times_15 (by decide) ?_
    refine n_iald hx hb hw hdL hdd2 0 (by omega) (by omega) dX8_times_16 ?_
    refine w_ti hd0 ?_
    refine lv_if_lt (tgt := 29) hx hb dX8_times_17 (by decide) (fun _ => ?_) (fun h => absurd (by decide) h)
    refine lv_iconst (v := (-1)) hx hb dX8_times_29 (by decide) ?_
    refine lv_goto (tgt := 46) hx hb dX8_times_30 (by decide) ?_
    refine lv_istore_n (lv' := [(3, .int (-1)), (0, .ref x), (1, .int v), (2, .int k)]) hx hb dX8_times_46 rfl hl (by decide) rfl (fun ls hl => ?_)
    refine lv_iconst (v := nI 0) hx hb dX8_times_47 (by decide) ?_
    refine lv_istore (lv' := [(4, .int (nI 0)), (3, .int (-1)), (0, .ref x), (1, .int v), (2, .int k)]) hx hb dX8_times_48 hl (by decide) rfl (fun ls hl => ?_)
    refine lv_iload hx hb dX8_times_50 (lv_at hl 0 rfl) ?_
    refine lv_iload_n hx hb dX8_times_52 rfl (lv_at hl 1 rfl) ?_
    refine lv_icmp_gt (tgt := 74) hx hb dX8_times_53 (by decide) (fun _ => ?_) (fun h => absurd (by decide) h)
    refine lv_iconst (v := nI 0) hx hb dX8_times_74 (by decide) ?_
    refine lv_istore (lv' := [(4, .int (nI 0)), (3, .int (-1)), (0, .ref x), (1, .int v), (2, .int k)]) hx hb dX8_times_75 hl (by decide) rfl (fun ls hl => ?_)
    refine lv_iload hx hb dX8_times_77 (lv_at hl 0 rfl) ?_
    refine lv_aload_n hx hb dX8_times_79 rfl (lv_at hl 2 rfl) ?_
    refine w_get (C := RX8) (T := TX8) (N := 18) (ci := 8) (ref := "LiftFactorsModel") (v := .ref dd) hx hb hts inX8_u hown hw hxL hxo2 rfl 8 (by decide) u_28 rfl hg8 dX8_times_80 ?_
    refine lv_iconst (v := nI 0) hx hb dX8_times_83 (by decide) ?_
    refine n_iald hx hb hw hdL hdd2 0 (by omega) (by omega) dX8_times_84 ?_
    refine w_ti hd0 ?_
    refine lv_icmp_gt (tgt := 155) hx hb dX8_times_85 (by decide) (fun _ => ?_) (fun h => absurd (by decide) h)
    refine lv_aload_n hx hb dX8_times_155 rfl (lv_at hl 2 rfl) ?_
    refine lv_bipush (v := nI 11) hx hb dX8_times_156 (by decide) ?_
    refine lv_iload_n hx hb dX8_times_158 rfl (lv_at hl 1 rfl) ?_
    refine w_callVv (lf := fun g => (L, g)) (As := [.int (nI 11), .int (-1)]) (rest := []) cx.fix hw (c_X8_trim l G L u1 _ x ww dd 11 0 fs2 wr2 dr2 (-1) hxL hxo2 hg7 hg8 hwL hww2 hdL hdd2 (by decide) (by decide) (by decide)) hxL hxo2 rfl rfl (w_cV 2 hts u_30 u_31 u_32 u_33 u_34 rfl rfl (by decide) (by decide)) hl.1 rfl (lv_room (Nat.le_of_ble_eq_true rfl)) dX8_times_159 (by decide) (fun u H locs hp hw => ?_)
    have hw : wH G A s.heap s L u H locs := hw
    rw [hp] at hw
    obtain ⟨f1, hf1⟩ : ∃ g, g = va_up u1 dd (eI G 60 (upd dr2 11 (nI (dgp (fun k => wr2 (24 * 11 + k)) 0) - nI 1))) := ⟨_, rfl⟩
    rw [← hf1] at hw
    have h1_x : f1 x = eO 8 fs2 := by rw [hf1, va_up_ne _ _ n_x_dd]; exact hxo2
    have h1_ww : f1 ww = eJ G 1440 wr2 := by rw [hf1, va_up_ne _ _ n_ww_dd]; exact hww2
    have h1_dd : f1 dd = eI G 60 (upd dr2 11 (nI (dgp (fun k => wr2 (24 * 11 + k)) 0) - nI 1)) := by rw [hf1]; exact va_up_eq _ _ _
    have h1_ca : f1 ca = eI G 880 (fun _ => 0) := by rw [hf1, va_up_ne _ _ n_ca_dd]; exact hca2
    have ho1 : ∀ q : Nat, q ≠ x → q ≠ ww → q ≠ dd → q ≠ ca → f1 q = f q := fun q hq0 hq1 hq2 hq3 => (show f1 q = u1 q from by rw [hf1]; exact va_up_ne _ _ hq2).trans (ho2 q hq0 hq1 hq2 hq3)
    refine lv_aload_n hx hb dX8_times_162 rfl (lv_at hl 2 rfl) ?_
    refine lv_aload_n hx hb dX8_times_163 rfl (lv_at hl 2 rfl) ?_
    refine lv_bipush (v := nI 11) hx hb dX8_times_164 (by decide) ?_
    refine w_callVi (lf := fun g => (L, g)) (As := [.int (nI 11)]) (rest := [.ref x]) cx.fix hw (c_X8_great0 l G L f1 _ x ww dd 11 fs2 wr2 (upd dr2 11 (nI (dgp (fun k => wr2 (24 * 11 + k)) 0) - nI 1)) hxL h1_x hg7 hg8 hwL h1_ww hdL h1_dd (by decide) (show (upd dr2 11 (nI (dgp (fun k => wr2 (24 * 11 + k)) 0) - nI 1)) 11 = nI 0 - nI 1 from by simp [upd, dgp])) hxL h1_x rfl rfl (w_cV 1 hts u_76 u_77 u_78 u_79 u_80 rfl rfl (by decide) (by decide)) hl.1 rfl (lv_room (Nat.le_of_ble_eq_true rfl)) dX8_times_166 (by decide) (fun r9 u H locs hp hw => ?_)
    obtain ⟨e9, e10⟩ := hp
    have hw : wH G A s.heap s L u H locs := hw
    rw [e10] at hw
    subst e9
    refine lv_if_eq (tgt := 176) hx hb dX8_times_169 (by decide) (fun _ => ?_) (fun h => absurd (by decide) h)
    refine lv_iconst (v := nI 0) hx hb dX8_times_176 (by decide) ?_
    refine w_put (C := RX8) (T := TX8) (N := 18) (ci := 8) (ref := "LiftFactorsModel") (ty := .int) (v := .int (nI 0)) hx hb hts inX8_u tyX8 tyX8_ok nmX8 hown hw hxL h1_x rfl 3 (by decide) u_26 rfl rfl (by decide +kernel) rfl rfl (by first | omega | decide) dX8_times_177 (fun H locs hw => ?_)
    obtain ⟨fs2, hz2⟩ : ∃ zz9, zz9 = fs2.set 3 (.int (nI 0)) := ⟨_, rfl⟩
    rw [← hz2] at hw
    have hlen2 : fs2.length = 18 := by rw [hz2, List.length_set]; exact hfl2
    have g2_1 : fs2[1]? = some (.ref ca) := by rw [hz2, List.getElem?_set_ne (by decide)]; exact hg1
    have g2_2 : fs2[2]? = some (.int (nI 0)) := by rw [hz2, List.getElem?_set_ne (by decide)]; exact hg2
    have g2_7 : fs2[7]? = some (.ref ww) := by rw [hz2, List.getElem?_set_ne (by decide)]; exact hg7
    have g2_8 : fs2[8]? = some (.ref dd) := by rw [hz2, List.getElem?_set_ne (by decide)]; exact hg8
    have g2_3 : fs2[3]? = some (.int (nI 0)) := by rw [hz2, List.getElem?_set_self (by omega)]
    obtain ⟨f3, hf3⟩ : ∃ g, g = va_up f1 x (eO 8 fs2) := ⟨_, rfl⟩
    rw [← hf3] at hw
    have h3_x : f3 x = eO 8 fs2 := by rw [hf3]; exact va_up_eq _ _ _
    have h3_ww : f3 ww = eJ G 1440 wr2 := by rw [hf3, va_up_ne _ _ n_ww_x]; exact h1_ww
    have h3_dd : f3 dd = eI G 60 (upd dr2 11 (nI (dgp (fun k => wr2 (24 * 11 + k)) 0) - nI 1)) := by rw [hf3, va_up_ne _ _ n_dd_x]; exact h1_dd
    have h3_ca : f3 ca = eI G 880 (fun _ => 0) := by rw [hf3, va_up_ne _ _ n_ca_x]; exact h1_ca
    have ho3 : ∀ q : Nat, q ≠ x → q ≠ ww → q ≠ dd → q ≠ ca → f3 q = f q := fun q hq0 hq1 hq2 hq3 => (show f3 q = f1 q from by rw [hf3]; exact va_up_ne _ _ hq0).trans (ho1 q hq0 hq1 hq2 hq3)
    refine lv_aload_n hx hb dX8_times_180 rfl (lv_at hl 2 rfl) ?_
    refine w_get (C := RX8) (T := TX8) (N := 18) (ci := 8) (ref := "LiftFactorsModel") (v := .int (nI 0)) hx hb hts inX8_u hown hw hxL h3_x rfl 3 (by decide) u_26 rfl g2_3 dX8_times_181 ?_
    refine lv_if_eq (tgt := 191) hx hb dX8_times_184 (by decide) (fun _ => ?_) (fun h => absurd (by decide) h)
    refine lv_aload_n hx hb dX8_times_191 rfl (lv_at hl 2 rfl) ?_
    refine lv_bipush (v := nI 11) hx hb dX8_times_192 (by decide) ?_
    refine w_callVi (lf := fun g => (L, g)) (As := [.int (nI 11)]) (rest := []) cx.fix hw (c_X8_store l G L f3 _ x ww dd ca 11 0 fs2 wr2 (upd dr2 11 (nI (dgp (fun k => wr2 (24 * 11 + k)) 0) - nI 1)) (fun _ => 0) hxL h3_x hlen2 g2_1 g2_2 g2_7 g2_8 hwL h3_ww hdL h3_dd hcL h3_ca n_dd_ca (by decide) (by decide)) hxL h3_x rfl rfl (w_cV 1 hts u_62 u_63 u_64 u_65 u_66 rfl rfl (by decide) (by decide)) hl.1 rfl (lv_room (Nat.le_of_ble_eq_true rfl)) dX8_times_194 (by decide) (fun r9 u H locs hp hw => ?_)
    obtain ⟨e9, e10⟩ := hp
    have hw : wH G A s.heap s L u H locs := hw
    rw [e10] at hw
    subst e9
    exact w_iret (lf := fun g => (L, g)) hx hb hr hlocks _ hw (Or.inl ⟨hin, rfl, ⟨_, va_up_eq _ _ _, (List.getElem?_set_ne (by decide)).trans g2_3⟩, fun q q0 q1 q2 q3 => ((va_up_ne _ _ q0).trans (va_up_ne _ _ q3)).trans (ho3 q q0 q1 q2 q3)⟩) dX8_times_197
  · skip
    have hw : wH G A s.heap s L u1 H locs := hw
    subst e9
    refine lv_if_eq (tgt := 11) hx hb dX8_times_6 (by decide) (fun h => absurd h (by decide)) (fun _ => ?_)
    refine lv_iconst (v := nI 0) hx hb dX8_times_9 (by decide) ?_
    exact w_iret (lf := fun g => (L, g)) hx hb hr hlocks u1 hw (Or.inr ⟨hin, hmo⟩) dX8_times_10
set_option maxRecDepth 100000 in
set_option maxHeartbeats 4000000 in
theorem z_X8_gcd (l : Launch) (G : gG) (L : List Nat) (f : Nat → va_E) (sz : Nat) (x ww dd ca : Nat) (hz : mZ G L f x ww dd ca) (v k : Int32) :
    Met l yX8_gcd (uW yX8_gcd cX8_gcd 3 (some .int)) { frames := 3, cells := 0, slots := 0, locals := 68 } (wIn G [.ref x, .int v, .int k] L f sz) (va_Qi (fun (r9 : Int32) (g : Nat → va_E) => ((inB v 80 && inB k 80) = true ∧ r9 = nI 0 ∧ mO f g x ww dd ca (nI 0)) ∨ ((inB v 80 && inB k 80) = false ∧ mO f g x ww dd ca (nI 1))) (fun g => wAt G (wA L f sz) L g) (wA L f sz)) 0 0 (wA L f sz) := by
  refine wEnter (by decide) (Nat.le_of_ble_eq_true rfl) ?_
  intro p e s m below meth c ls cx hinit hl hsz hw
  obtain ⟨hx, hb, hr, hml, hown, hts, hlocks⟩ := id cx
  have hown : s.vm.findClass RX8 = some m.cls := hown
  have hl : lv_has ls 3 [(0, .ref x), (1, .int v), (2, .int k)] := hl
  generalize wA L f sz = A at hw ⊢
  obtain ⟨fs, wr, dr, hxL, hxo, hfl, hfs1, hfs2, hfs3, hfs4, hfs7, hfs8, hwL, hww, hdL, hdd, hcL, hca, hcd⟩ := hz
  have n_x_ww : x ≠ ww := ne_E hww hxo (by simp)
  have n_x_dd : x ≠ dd := ne_E hdd hxo (by simp)
  have n_x_ca : x ≠ ca := ne_E hca hxo (by simp)
  have n_ww_x : ww ≠ x := ne_E hxo hww (by simp)
  have n_ww_dd : ww ≠ dd := ne_E hdd hww (by simp)
  have n_ww_ca : ww ≠ ca := ne_E hca hww (by simp)
  have n_dd_x : dd ≠ x := ne_E hxo hdd (by simp)
  have n_dd_ww : dd ≠ ww := ne_E hww hdd (by simp)
  have n_dd_ca : dd ≠ ca := hcd
  have n_ca_x : ca ≠ x := ne_E hxo hca (by simp)
  have n_ca_ww : ca ≠ ww := ne_E hww hca (by simp)
  have n_ca_dd : ca ≠ dd := (hcd).symm
  have ho0 : ∀ q : Nat, q ≠ x → q ≠ ww → q ≠ dd → q ≠ ca → f q = f q := fun q _ _ _ _ => rfl
  refine lv_aload_n hx hb dX8_gcd_0 rfl (lv_at hl 0 rfl) ?_
  refine lv_iload_n hx hb dX8_gcd_1 rfl (lv_at hl 1 rfl) ?_
  refine lv_iload_n hx hb dX8_gcd_2 rfl (lv_at hl 2 rfl) ?_
  refine w_callVi (lf := fun g => (L, g)) (As := [.int v, .int k]) (rest := []) cx.fix hw (z_X8_refuses l G L f _ x ww dd ca ⟨fs, wr, dr, hxL, hxo, hfl, hfs1, hfs2, hfs3, hfs4, hfs7, hfs8, hwL, hww, hdL, hdd, hcL, hca, hcd⟩ v k) hxL hxo rfl rfl (w_cV 2 hts u_71 u_72 u_73 u_74 u_75 rfl rfl (by decide) (by decide)) hl.1 rfl (lv_room (Nat.le_of_ble_eq_true rfl)) dX8_gcd_3 (by decide) (fun r9 u1 H locs hp hw => ?_)
  rcases hp with ⟨hin, e9, fs2, wr2, dr2, hxo2, hfl2, hg1, hg2, hg3, hg7, hg8, hww2, hdd2, hca2, hd0, hd1, ho2⟩ | ⟨hin, e9, hmo⟩
  · skip
    have hw : wH G A s.heap s L u1 H locs := hw
    subst e9
    refine lv_if_eq (tgt := 11) hx hb dX8_gcd_6 (by decide) (fun _ => ?_) (fun h => absurd (by decide) h)
    refine lv_aload_n hx hb dX8_gcd_11 rfl (lv_at hl 0 rfl) ?_
    refine lv_iconst (v := nI 0) hx hb dX8_gcd_12 (by decide) ?_
    refine w_callVl (lf := fun g => (L, g)) (As := [.int (nI 0)]) (rest := []) cx.fix hw (c_X8_primitive0 l G L u1 _ x ww dd 0 fs2 wr2 dr2 hxL hxo2 hg7 hg8 hwL hww2 hdL hdd2 (by decide) hd0) hxL hxo2 rfl rfl (w_cV 1 hts u_50 u_51 u_52 u_53 u_54 rfl rfl (by decide) (by decide)) hl.1 rfl (lv_room (Nat.le_of_ble_eq_true rfl)) dX8_gcd_13 (by decide) (fun r9 u H locs hp hw => ?_)
    obtain ⟨e9, e10⟩ := hp
    have hw : wH G A s.heap s L u H locs := hw
    rw [e10] at hw
    subst e9
    refine lv_pop2_2 hx hb dX8_gcd_16 rfl ?_
    refine lv_aload_n hx hb dX8_gcd_17 rfl (lv_at hl 0 rfl) ?_
    refine lv_iconst (v := nI 1) hx hb dX8_gcd_18 (by decide) ?_
    refine w_callVl (lf := fun g => (L, g)) (As := [.int (nI 1)]) (rest := []) cx.fix hw (c_X8_primitive0 l G L u1 _ x ww dd 1 fs2 wr2 dr2 hxL hxo2 hg7 hg8 hwL hww2 hdL hdd2 (by decide) hd1) hxL hxo2 rfl rfl (w_cV 1 hts u_50 u_51 u_52 u_53 u_54 rfl rfl (by decide) (by decide)) hl.1 rfl (lv_room (Nat.le_of_ble_eq_true rfl)) dX8_gcd_19 (by decide) (fun r9 u H locs hp hw => ?_)
    obtain ⟨e9, e10⟩ := hp
    have hw : wH G A s.heap s L u H locs := hw
    rw [e10] at hw
    subst e9
    refine lv_pop2_2 hx hb dX8_gcd_22 rfl ?_
    refine lv_aload_n hx hb dX8_gcd_23 rfl (lv_at hl 0 rfl) ?_
    refine w_get (C := RX8) (T := TX8) (N := 18) (ci := 8) (ref := "LiftFactorsModel") (v := .ref dd) hx hb hts inX8_u hown hw hxL hxo2 rfl 8 (by decide) u_28 rfl hg8 dX8_gcd_24 ?_
    refine lv_iconst (v := nI 0) hx hb dX8_gcd_27 (by decide) ?_
    refine n_iald hx hb hw hdL hdd2 0 (by omega) (by omega) dX8_gcd_28 ?_
    refine w_ti hd0 ?_
    refine lv_if_ge (tgt := 51) hx hb dX8_gcd_29 (by decide) (fun h => absurd h (by decide)) (fun _ => ?_)
    refine lv_aload_n hx hb dX8_gcd_32 rfl (lv_at hl 0 rfl) ?_
    refine w_get (C := RX8) (T := TX8) (N := 18) (ci := 8) (ref := "LiftFactorsModel") (v := .ref dd) hx hb hts inX8_u hown hw hxL hxo2 rfl 8 (by decide) u_28 rfl hg8 dX8_gcd_33 ?_
    refine lv_iconst (v := nI 1) hx hb dX8_gcd_36 (by decide) ?_
    refine n_iald hx hb hw hdL hdd2 1 (by omega) (by omega) dX8_gcd_37 ?_
    refine w_ti hd1 ?_
    refine lv_if_ge (tgt := 51) hx hb dX8_gcd_38 (by decide) (fun h => absurd h (by decide)) (fun _ => ?_)
    refine lv_aload_n hx hb dX8_gcd_41 rfl (lv_at hl 0 rfl) ?_
    refine lv_iconst (v := nI 0) hx hb dX8_gcd_42 (by decide) ?_
    refine lv_bipush (v := nI 11) hx hb dX8_gcd_43 (by decide) ?_
    refine w_callVv (lf := fun g => (L, g)) (As := [.int (nI 0), .int (nI 11)]) (rest := []) cx.fix hw (c_X8_copy0 l G L u1 _ x ww dd 0 11 fs2 wr2 dr2 hxL hxo2 hg7 hg8 hwL hww2 hdL hdd2 (by decide) hd0 (by decide)) hxL hxo2 rfl rfl (w_cV 2 hts u_81 u_82 u_83 u_84 u_85 rfl rfl (by decide) (by decide)) hl.1 rfl (lv_room (Nat.le_of_ble_eq_true rfl)) dX8_gcd_45 (by decide) (fun u H locs hp hw => ?_)
    have hw : wH G A s.heap s L u H locs := hw
    rw [hp] at hw
    obtain ⟨f1, hf1⟩ : ∃ g, g = va_up u1 dd (eI G 60 (upd dr2 11 (nI 0 - nI 1))) := ⟨_, rfl⟩
    rw [← hf1] at hw
    have h1_x : f1 x = eO 8 fs2 := by rw [hf1, va_up_ne _ _ n_x_dd]; exact hxo2
    have h1_ww : f1 ww = eJ G 1440 wr2 := by rw [hf1, va_up_ne _ _ n_ww_dd]; exact hww2
    have h1_dd : f1 dd = eI G 60 (upd dr2 11 (nI 0 - nI 1)) := by rw [hf1]; exact va_up_eq _ _ _
    have h1_ca : f1 ca = eI G 880 (fun _ => 0) := by rw [hf1, va_up_ne _ _ n_ca_dd]; exact hca2
    have ho1 : ∀ q : Nat, q ≠ x → q ≠ ww → q ≠ dd → q ≠ ca → f1 q = f q := fun q hq0 hq1 hq2 hq3 => (show f1 q = u1 q from by rw [hf1]; exact va_up_ne _ _ hq2).trans (ho2 q hq0 hq1 hq2 hq3)
    refine lv_goto (tgt := 59) hx hb dX8_gcd_48 (by decide) ?_
    refine lv_aload_n hx hb dX8_gcd_59 rfl (lv_at hl 0 rfl) ?_
    refine lv_bipush (v := nI 11) hx hb dX8_gcd_60 (by decide) ?_
    refine w_callVi (lf := fun g => (L, g)) (As := [.int (nI 11)]) (rest := []) cx.fix hw (c_X8_great0 l G L f1 _ x ww dd 11 fs2 wr2 (upd dr2 11 (nI 0 - nI 1)) hxL h1_x hg7 hg8 hwL h1_ww hdL h1_dd (by decide) (show (upd dr2 11 (nI 0 - nI 1)) 11 = nI 0 - nI 1 from by simp [upd])) hxL h1_x rfl rfl (w_cV 1 hts u_76 u_77 u_78 u_79 u_80 rfl rfl (by decide) (by decide)) hl.1 rfl (lv_room (Nat.le_of_ble_eq_true rfl)) dX8_gcd_62 (by decide) (fun r9 u H locs hp hw => ?_)
    obtain ⟨e9, e10⟩ := hp
    have hw : wH G A s.heap s L u H locs := hw
    rw [e10] at hw
    subst e9
    refine lv_if_eq (tgt := 72) hx hb dX8_gcd_65 (by decide) (fun _ => ?_) (fun h => absurd (by decide) h)
    refine lv_aload_n hx hb dX8_gcd_72 rfl (lv_at hl 0 rfl) ?_
    refine lv_bipush (v := nI 11) hx hb dX8_gcd_73 (by decide) ?_
    refine w_callVi (lf := fun g => (L, g)) (As := [.int (nI 11)]) (rest := []) cx.fix hw (c_X8_store l G L f1 _ x ww dd ca 11 0 fs2 wr2 (upd dr2 11 (nI 0 - nI 1)) (fun _ => 0) hxL h1_x hfl2 hg1 hg2 hg7 hg8 hwL h1_ww hdL h1_dd hcL h1_ca n_dd_ca (by decide) (by decide)) hxL h1_x rfl rfl (w_cV 1 hts u_62 u_63 u_64 u_65 u_66 rfl rfl (by decide) (by decide)) hl.1 rfl (lv_room (Nat.le_of_ble_eq_true rfl)) dX8_gcd_75 (by decide) (fun r9 u H locs hp hw => ?_)
    obtain ⟨e9, e10⟩ := hp
    have hw : wH G A s.heap s L u H locs := hw
    rw [e10] at hw
    subst e9
    exact w_iret (lf := fun g => (L, g)) hx hb hr hlocks _ hw (Or.inl ⟨hin, rfl, ⟨_, va_up_eq _ _ _, (List.getElem?_set_ne (by decide)).trans hg3⟩, fun q q0 q1 q2 q3 => ((va_up_ne _ _ q0).trans (va_up_ne _ _ q3)).trans (ho1 q q0 q1 q2 q3)⟩) dX8_gcd_78
  · skip
    have hw : wH G A s.heap s L u1 H locs := hw
    subst e9
    refine lv_if_eq (tgt := 11) hx hb dX8_gcd_6 (by decide) (fun h => absurd h (by decide)) (fun _ => ?_)
    refine lv_iconst (v := nI 0) hx hb dX8_gcd_9 (by decide) ?_
    exact w_iret (lf := fun g => (L, g)) hx hb hr hlocks u1 hw (Or.inr ⟨hin, hmo⟩) dX8_gcd_10
set_option maxRecDepth 100000 in
set_option maxHeartbeats 4000000 in
theorem z_X8_parts (l : Launch) (G : gG) (L : List Nat) (f : Nat → va_E) (sz : Nat) (x ww dd ca : Nat) (hz : mZ G L f x ww dd ca) (v z : Int32) :
    Met l yX8_parts (uW yX8_parts cX8_parts 8 (some .int)) { frames := 2, cells := 0, slots := 0, locals := 48 } (wIn G [.ref x, .int v, .int z] L f sz) (va_Qi (fun (r9 : Int32) (g : Nat → va_E) => ((inB v 80 && spB z) = true → r9 = -1) ∧ mO f g x ww dd ca (if inB v 80 then (if spB z then nI 0 else nI 2) else nI 1)) (fun g => wAt G (wA L f sz) L g) (wA L f sz)) 0 0 (wA L f sz) := by
  refine wEnter (by decide) (Nat.le_of_ble_eq_true rfl) ?_
  intro p e s m below meth c ls cx hinit hl hsz hw
  obtain ⟨hx, hb, hr, hml, hown, hts, hlocks⟩ := id cx
  have hown : s.vm.findClass RX8 = some m.cls := hown
  have hl : lv_has ls 8 [(0, .ref x), (1, .int v), (2, .int z)] := hl
  generalize wA L f sz = A at hw ⊢
  obtain ⟨fs, wr, dr, hxL, hxo, hfl, hfs1, hfs2, hfs3, hfs4, hfs7, hfs8, hwL, hww, hdL, hdd, hcL, hca, hcd⟩ := hz
  have n_x_ww : x ≠ ww := ne_E hww hxo (by simp)
  have n_x_dd : x ≠ dd := ne_E hdd hxo (by simp)
  have n_x_ca : x ≠ ca := ne_E hca hxo (by simp)
  have n_ww_x : ww ≠ x := ne_E hxo hww (by simp)
  have n_ww_dd : ww ≠ dd := ne_E hdd hww (by simp)
  have n_ww_ca : ww ≠ ca := ne_E hca hww (by simp)
  have n_dd_x : dd ≠ x := ne_E hxo hdd (by simp)
  have n_dd_ww : dd ≠ ww := ne_E hww hdd (by simp)
  have n_dd_ca : dd ≠ ca := hcd
  have n_ca_x : ca ≠ x := ne_E hxo hca (by simp)
  have n_ca_ww : ca ≠ ww := ne_E hww hca (by simp)
  have n_ca_dd : ca ≠ dd := (hcd).symm
  have ho0 : ∀ q : Nat, q ≠ x → q ≠ ww → q ≠ dd → q ≠ ca → f q = f q := fun q _ _ _ _ => rfl
  refine lv_aload_n hx hb dX8_parts_0 rfl (lv_at hl 0 rfl) ?_
  refine lv_iload_n hx hb dX8_parts_1 rfl (lv_at hl 1 rfl) ?_
  refine w_callSi (lf := fun g => (L, g)) (As := [.int v]) (rest := [.ref x]) cx.fix hw (c_X8_isPoly l G L f _ v) (w_cS 1 hts u_41 u_42 u_43 u_44 rfl rfl (by decide) (by decide)) hl.1 rfl (lv_room (Nat.le_of_ble_eq_true rfl)) dX8_parts_2 (by decide) (fun r9 u H locs hp hw => ?_)
  rcases hp with ⟨⟨e9, j, hj, ejj⟩ | ⟨e9, hno⟩, e10⟩
  · skip
    have hw : wH G A s.heap s L u H locs := hw
    rw [e10] at hw
    subst e9
    subst ejj
    rw [inB_t (by decide) hj]
    refine lv_if_ne (tgt := 12) hx hb dX8_parts_5 (by decide) (fun _ => ?_) (fun h => absurd h (by decide))
    refine lv_iload_n hx hb dX8_parts_12 rfl (lv_at hl 2 rfl) ?_
    refine w_callSi (lf := fun g => (L, g)) (As := [.int z]) (rest := [.ref x]) cx.fix hw (c_X8_isPrime l G L f _ z) (w_cS 1 hts u_86 u_87 u_88 u_89 rfl rfl (by decide) (by decide)) hl.1 rfl (lv_room (Nat.le_of_ble_eq_true rfl)) dX8_parts_13 (by decide) (fun r9 u H locs hp hw => ?_)
    obtain ⟨e9, e10⟩ := hp
    have hw : wH G A s.heap s L u H locs := hw
    rw [e10] at hw
    cases hsp : spB z
    · skip
      rw [hsp] at e9
      subst e9
      refine w_ti (y := nI 0) rfl ?_
      refine lv_if_ne (tgt := 23) hx hb dX8_parts_16 (by decide) (fun h => absurd (by decide) h) (fun _ => ?_)
      refine lv_iconst (v := nI 2) hx hb dX8_parts_19 (by decide) ?_
      refine lv_goto (tgt := 24) hx hb dX8_parts_20 (by decide) ?_
      refine w_put (C := RX8) (T := TX8) (N := 18) (ci := 8) (ref := "LiftFactorsModel") (ty := .int) (v := .int (nI 2)) hx hb hts inX8_u tyX8 tyX8_ok nmX8 hown hw hxL hxo rfl 3 (by decide) u_26 rfl rfl (by decide +kernel) rfl rfl (by first | omega | decide) dX8_parts_24 (fun H locs hw => ?_)
      obtain ⟨fs1, hz1⟩ : ∃ zz9, zz9 = fs.set 3 (.int (nI 2)) := ⟨_, rfl⟩
      rw [← hz1] at hw
      have hlen1 : fs1.length = 18 := by rw [hz1, List.length_set]; exact hfl
      have g1_1 : fs1[1]? = some (.ref ca) := by rw [hz1, List.getElem?_set_ne (by decide)]; exact hfs1
      have g1_2 : fs1[2]? = some (.int (nI 0)) := by rw [hz1, List.getElem?_set_ne (by decide)]; exact hfs2
      have g1_4 : fs1[4]? = some (.int (nI 0)) := by rw [hz1, List.getElem?_set_ne (by decide)]; exact hfs4
      have g1_7 : fs1[7]? = some (.ref ww) := by rw [hz1, List.getElem?_set_ne (by decide)]; exact hfs7
      have g1_8 : fs1[8]? = some (.ref dd) := by rw [hz1, List.getElem?_set_ne (by decide)]; exact hfs8
      have g1_3 : fs1[3]? = some (.int (nI 2)) := by rw [hz1, List.getElem?_set_self (by omega)]
      obtain ⟨f2, hf2⟩ : ∃ g, g = va_up f x (eO 8 fs1) := ⟨_, rfl⟩
      rw [← hf2] at hw
      have h2_x : f2 x = eO 8 fs1 := by rw [hf2]; exact va_up_eq _ _ _
      have h2_ww : f2 ww = eJ G 1440 wr := by rw [hf2, va_up_ne _ _ n_ww_x]; exact hww
      have h2_dd : f2 dd = eI G 60 dr := by rw [hf2, va_up_ne _ _ n_dd_x]; exact hdd
      have h2_ca : f2 ca = eI G 880 (fun _ => 0) := by rw [hf2, va_up_ne _ _ n_ca_x]; exact hca
      have ho2 : ∀ q : Nat, q ≠ x → q ≠ ww → q ≠ dd → q ≠ ca → f2 q = f q := fun q hq0 hq1 hq2 hq3 => (show f2 q = f q from by rw [hf2]; exact va_up_ne _ _ hq0).trans (ho0 q hq0 hq1 hq2 hq3)
      refine lv_aload_n hx hb dX8_parts_27 rfl (lv_at hl 0 rfl) ?_
      refine w_get (C := RX8) (T := TX8) (N := 18) (ci := 8) (ref := "LiftFactorsModel") (v := .int (nI 2)) hx hb hts inX8_u hown hw hxL h2_x rfl 3 (by decide) u_26 rfl g1_3 dX8_parts_28 ?_
      refine lv_if_eq (tgt := 36) hx hb dX8_parts_31 (by decide) (fun h => absurd h (by decide)) (fun _ => ?_)
      refine lv_iconst (v := nI 0) hx hb dX8_parts_34 (by decide) ?_
      exact w_iret (lf := fun g => (L, g)) hx hb hr hlocks f2 hw (⟨(fun h => Bool.noConfusion h), ⟨fs1, h2_x, g1_3⟩, ho2⟩) dX8_parts_35
    · skip
      rw [hsp] at e9
      subst e9
      refine w_ti (y := nI 1) rfl ?_
      refine lv_if_ne (tgt := 23) hx hb dX8_parts_16 (by decide) (fun _ => ?_) (fun h => absurd h (by decide))
      refine lv_iconst (v := nI 0) hx hb dX8_parts_23 (by decide) ?_
      refine w_put (C := RX8) (T := TX8) (N := 18) (ci := 8) (ref := "LiftFactorsModel") (ty := .int) (v := .int (nI 0)) hx hb hts inX8_u tyX8 tyX8_ok nmX8 hown hw hxL hxo rfl 3 (by decide) u_26 rfl rfl (by decide +kernel) rfl rfl (by first | omega | decide) dX8_parts_24 (fun H locs hw => ?_)
      obtain ⟨fs3, hz3⟩ : ∃ zz9, zz9 = fs.set 3 (.int (nI 0)) := ⟨_, rfl⟩
      rw [← hz3] at hw
      have hlen3 : fs3.length = 18 := by rw [hz3, List.length_set]; exact hfl
      have g3_1 : fs3[1]? = some (.ref ca) := by rw [hz3, List.getElem?_set_ne (by decide)]; exact hfs1
      have g3_2 : fs3[2]? = some (.int (nI 0)) := by rw [hz3, List.getElem?_set_ne (by decide)]; exact hfs2
      have g3_4 : fs3[4]? = some (.int (nI 0)) := by rw [hz3, List.getElem?_set_ne (by decide)]; exact hfs4
      have g3_7 : fs3[7]? = some (.ref ww) := by rw [hz3, List.getElem?_set_ne (by decide)]; exact hfs7
      have g3_8 : fs3[8]? = some (.ref dd) := by rw [hz3, List.getElem?_set_ne (by decide)]; exact hfs8
      have g3_3 : fs3[3]? = some (.int (nI 0)) := by rw [hz3, List.getElem?_set_self (by omega)]
      obtain ⟨f4, hf4⟩ : ∃ g, g = va_up f x (eO 8 fs3) := ⟨_, rfl⟩
      rw [← hf4] at hw
      have h4_x : f4 x = eO 8 fs3 := by rw [hf4]; exact va_up_eq _ _ _
      have h4_ww : f4 ww = eJ G 1440 wr := by rw [hf4, va_up_ne _ _ n_ww_x]; exact hww
      have h4_dd : f4 dd = eI G 60 dr := by rw [hf4, va_up_ne _ _ n_dd_x]; exact hdd
      have h4_ca : f4 ca = eI G 880 (fun _ => 0) := by rw [hf4, va_up_ne _ _ n_ca_x]; exact hca
      have ho4 : ∀ q : Nat, q ≠ x → q ≠ ww → q ≠ dd → q ≠ ca → f4 q = f q := fun q hq0 hq1 hq2 hq3 => (show f4 q = f q from by rw [hf4]; exact va_up_ne _ _ hq0).trans (ho0 q hq0 hq1 hq2 hq3)
      refine lv_aload_n hx hb dX8_parts_27 rfl (lv_at hl 0 rfl) ?_
      refine w_get (C := RX8) (T := TX8) (N := 18) (ci := 8) (ref := "LiftFactorsModel") (v := .int (nI 0)) hx hb hts inX8_u hown hw hxL h4_x rfl 3 (by decide) u_26 rfl g3_3 dX8_parts_28 ?_
      refine lv_if_eq (tgt := 36) hx hb dX8_parts_31 (by decide) (fun _ => ?_) (fun h => absurd (by decide) h)
      refine lv_aload_n hx hb dX8_parts_36 rfl (lv_at hl 0 rfl) ?_
      refine lv_iload_n hx hb dX8_parts_37 rfl (lv_at hl 1 rfl) ?_
      refine lv_iconst (v := nI 0) hx hb dX8_parts_38 (by decide) ?_
      refine w_callVv (lf := fun g => (L, g)) (As := [.int (nI j), .int (nI 0)]) (rest := []) cx.fix hw (c_X8_load l G L f4 _ x ww dd ca 0 j fs3 wr dr (fun _ => 0) hxL h4_x g3_1 g3_7 g3_8 hwL h4_ww hdL h4_dd hcL h4_ca (by decide) hj) hxL h4_x rfl rfl (w_cV 2 hts u_45 u_46 u_47 u_48 u_49 rfl rfl (by decide) (by decide)) hl.1 rfl (lv_room (Nat.le_of_ble_eq_true rfl)) dX8_parts_39 (by decide) (fun u H locs hp hw => ?_)
      have hw : wH G A s.heap s L u H locs := hw
      rw [hp] at hw
      obtain ⟨f5, hf5⟩ : ∃ g, g = va_up f4 ww (eJ G 1440 (updB wr (24 * 0) (fun k => ((fun _ => 0 : Nat → Int32) (11 * j + k)).toInt64) 11)) := ⟨_, rfl⟩
      rw [← hf5] at hw
      have h5_x : f5 x = eO 8 fs3 := by rw [hf5, va_up_ne _ _ n_x_ww]; exact h4_x
      have h5_ww : f5 ww = eJ G 1440 (updB wr (24 * 0) (fun k => ((fun _ => 0 : Nat → Int32) (11 * j + k)).toInt64) 11) := by rw [hf5]; exact va_up_eq _ _ _
      have h5_dd : f5 dd = eI G 60 dr := by rw [hf5, va_up_ne _ _ n_dd_ww]; exact h4_dd
      have h5_ca : f5 ca = eI G 880 (fun _ => 0) := by rw [hf5, va_up_ne _ _ n_ca_ww]; exact h4_ca
      have ho5 : ∀ q : Nat, q ≠ x → q ≠ ww → q ≠ dd → q ≠ ca → f5 q = f q := fun q hq0 hq1 hq2 hq3 => (show f5 q = f4 q from by rw [hf5]; exact va_up_ne _ _ hq1).trans (ho4 q hq0 hq1 hq2 hq3)
      rw [show dgp (fun k => ((fun _ => 0 : Nat → Int32) (11 * j + k)).toInt64) 11 = 0 from dgp_0 (fun _ _ => rfl)] at hw
      obtain ⟨f6, hf6⟩ : ∃ g, g = va_up f5 dd (eI G 60 (upd dr 0 (nI 0 - nI 1))) := ⟨_, rfl⟩
      rw [← hf6] at hw
      have h6_x : f6 x = eO 8 fs3 := by rw [hf6, va_up_ne _ _ n_x_dd]; exact h5_x
      have h6_ww : f6 ww = eJ G 1440 (updB wr (24 * 0) (fun k => ((fun _ => 0 : Nat → Int32) (11 * j + k)).toInt64) 11) := by rw [hf6, va_up_ne _ _ n_ww_dd]; exact h5_ww
      have h6_dd : f6 dd = eI G 60 (upd dr 0 (nI 0 - nI 1)) := by rw [hf6]; exact va_up_eq _ _ _
      have h6_ca : f6 ca = eI G 880 (fun _ => 0) := by rw [hf6, va_up_ne _ _ n_ca_dd]; exact h5_ca
      have ho6 : ∀ q : Nat, q ≠ x → q ≠ ww → q ≠ dd → q ≠ ca → f6 q = f q := fun q hq0 hq1 hq2 hq3 => (show f6 q = f5 q from by rw [hf6]; exact va_up_ne _ _ hq2).trans (ho5 q hq0 hq1 hq2 hq3)
      refine lv_aload_n hx hb dX8_parts_42 rfl (lv_at hl 0 rfl) ?_
      refine w_get (C := RX8) (T := TX8) (N := 18) (ci := 8) (ref := "LiftFactorsModel") (v := .ref dd) hx hb hts inX8_u hown hw hxL h6_x rfl 8 (by decide) u_28 rfl g3_8 dX8_parts_43 ?_
      refine lv_iconst (v := nI 0) hx hb dX8_parts_46 (by decide) ?_
      refine n_iald hx hb hw hdL h6_dd 0 (by omega) (by omega) dX8_parts_47 ?_
      refine w_ti (show (upd dr 0 (nI 0 - nI 1)) 0 = nI 0 - nI 1 from by simp [upd]) ?_
      refine lv_istore_n (lv' := [(3, .int (nI 0 - nI 1)), (0, .ref x), (1, .int (nI j)), (2, .int z)]) hx hb dX8_parts_48 rfl hl (by decide) rfl (fun ls hl => ?_)
      refine lv_aload_n hx hb dX8_parts_49 rfl (lv_at hl 1 rfl) ?_
      refine lv_iload_n hx hb dX8_parts_50 rfl (lv_at hl 3 rfl) ?_
      refine lv_i2l (v := z.toInt64) hx hb dX8_parts_51 rfl ?_
      refine w_put (C := RX8) (T := TX8) (N := 18) (ci := 8) (ref := "LiftFactorsModel") (ty := .long) (v := .long z.toInt64) hx hb hts inX8_u tyX8 tyX8_ok nmX8 hown hw hxL h6_x rfl 9 (by decide) u_90 rfl rfl (by decide +kernel) rfl rfl (by first | omega | decide) dX8_parts_52 (fun H locs hw => ?_)
      obtain ⟨fs7, hz7⟩ : ∃ zz9, zz9 = fs3.set 9 (.long z.toInt64) := ⟨_, rfl⟩
      rw [← hz7] at hw
      have hlen7 : fs7.length = 18 := by rw [hz7, List.length_set]; exact hlen3
      have g7_1 : fs7[1]? = some (.ref ca) := by rw [hz7, List.getElem?_set_ne (by decide)]; exact g3_1
      have g7_2 : fs7[2]? = some (.int (nI 0)) := by rw [hz7, List.getElem?_set_ne (by decide)]; exact g3_2
      have g7_4 : fs7[4]? = some (.int (nI 0)) := by rw [hz7, List.getElem?_set_ne (by decide)]; exact g3_4
      have g7_7 : fs7[7]? = some (.ref ww) := by rw [hz7, List.getElem?_set_ne (by decide)]; exact g3_7
      have g7_8 : fs7[8]? = some (.ref dd) := by rw [hz7, List.getElem?_set_ne (by decide)]; exact g3_8
      have g7_3 : fs7[3]? = some (.int (nI 0)) := by rw [hz7, List.getElem?_set_ne (by decide)]; exact g3_3
      have g7_9 : fs7[9]? = some (.long z.toInt64) := by rw [hz7, List.getElem?_set_self (by omega)]
      obtain ⟨f8, hf8⟩ : ∃ g, g = va_up f6 x (eO 8 fs7) := ⟨_, rfl⟩
      rw [← hf8] at hw
      have h8_x : f8 x = eO 8 fs7 := by rw [hf8]; exact va_up_eq _ _ _
      have h8_ww : f8 ww = eJ G 1440 (updB wr (24 * 0) (fun k => ((fun _ => 0 : Nat → Int32) (11 * j + k)).toInt64) 11) := by rw [hf8, va_up_ne _ _ n_ww_x]; exact h6_ww
      have h8_dd : f8 dd = eI G 60 (upd dr 0 (nI 0 - nI 1)) := by rw [hf8, va_up_ne _ _ n_dd_x]; exact h6_dd
      have h8_ca : f8 ca = eI G 880 (fun _ => 0) := by rw [hf8, va_up_ne _ _ n_ca_x]; exact h6_ca
      have ho8 : ∀ q : Nat, q ≠ x → q ≠ ww → q ≠ dd → q ≠ ca → f8 q = f q := fun q hq0 hq1 hq2 hq3 => (show f8 q = f6 q from by rw [hf8]; exact va_up_ne _ _ hq0).trans (ho6 q hq0 hq1 hq2 hq3)
      refine lv_aload_n hx hb dX8_parts_55 rfl (lv_at hl 1 rfl) ?_
      refine lv_iconst (v := nI 0) hx hb dX8_parts_56 (by decide) ?_
      refine w_callVv (lf := fun g => (L, g)) (As := [.int (nI 0)]) (rest := []) cx.fix hw (c_X8_reduce0 l G L f8 _ x ww dd 0 fs7 (updB wr (24 * 0) (fun k => ((fun _ => 0 : Nat → Int32) (11 * j + k)).toInt64) 11) (upd dr 0 (nI 0 - nI 1)) hxL h8_x g7_7 g7_8 hwL h8_ww hdL h8_dd (by decide) (show (upd dr 0 (nI 0 - nI 1)) 0 = nI 0 - nI 1 from by simp [upd])) hxL h8_x rfl rfl (w_cV 1 hts u_91 u_92 u_93 u_94 u_95 rfl rfl (by decide) (by decide)) hl.1 rfl (lv_room (Nat.le_of_ble_eq_true rfl)) dX8_parts_57 (by decide) (fun u H locs hp hw => ?_)
      have hw : wH G A s.heap s L u H locs := hw
      rw [hp] at hw
      obtain ⟨f9, hf9⟩ : ∃ g, g = va_up f8 dd (eI G 60 (upd (upd dr 0 (nI 0 - nI 1)) 0 (nI 0 - nI 1))) := ⟨_, rfl⟩
      rw [← hf9] at hw
      have h9_x : f9 x = eO 8 fs7 := by rw [hf9, va_up_ne _ _ n_x_dd]; exact h8_x
      have h9_ww : f9 ww = eJ G 1440 (updB wr (24 * 0) (fun k => ((fun _ => 0 : Nat → Int32) (11 * j + k)).toInt64) 11) := by rw [hf9, va_up_ne _ _ n_ww_dd]; exact h8_ww
      have h9_dd : f9 dd = eI G 60 (upd (upd dr 0 (nI 0 - nI 1)) 0 (nI 0 - nI 1)) := by rw [hf9]; exact va_up_eq _ _ _
      have h9_ca : f9 ca = eI G 880 (fun _ => 0) := by rw [hf9, va_up_ne _ _ n_ca_dd]; exact h8_ca
      have ho9 : ∀ q : Nat, q ≠ x → q ≠ ww → q ≠ dd → q ≠ ca → f9 q = f q := fun q hq0 hq1 hq2 hq3 => (show f9 q = f8 q from by rw [hf9]; exact va_up_ne _ _ hq2).trans (ho8 q hq0 hq1 hq2 hq3)
      refine lv_iload_n hx hb dX8_parts_60 rfl (lv_at hl 0 rfl) ?_
      refine lv_if_lt (tgt := 74) hx hb dX8_parts_61 (by decide) (fun _ => ?_) (fun h => absurd (by decide) h)
      refine lv_iconst (v := (-1)) hx hb dX8_parts_74 (by decide) ?_
      exact w_iret (lf := fun g => (L, g)) hx hb hr hlocks f9 hw (⟨(fun _ => rfl), ⟨fs7, h9_x, g7_3⟩, ho9⟩) dX8_parts_75
  · skip
    have hw : wH G A s.heap s L u H locs := hw
    rw [e10] at hw
    subst e9
    rw [inB_f (by decide) hno]
    refine lv_if_ne (tgt := 12) hx hb dX8_parts_5 (by decide) (fun h => absurd (by decide) h) (fun _ => ?_)
    refine lv_iconst (v := nI 1) hx hb dX8_parts_8 (by decide) ?_
    refine lv_goto (tgt := 24) hx hb dX8_parts_9 (by decide) ?_
    refine w_put (C := RX8) (T := TX8) (N := 18) (ci := 8) (ref := "LiftFactorsModel") (ty := .int) (v := .int (nI 1)) hx hb hts inX8_u tyX8 tyX8_ok nmX8 hown hw hxL hxo rfl 3 (by decide) u_26 rfl rfl (by decide +kernel) rfl rfl (by first | omega | decide) dX8_parts_24 (fun H locs hw => ?_)
    obtain ⟨fs10, hz10⟩ : ∃ zz9, zz9 = fs.set 3 (.int (nI 1)) := ⟨_, rfl⟩
    rw [← hz10] at hw
    have hlen10 : fs10.length = 18 := by rw [hz10, List.length_set]; exact hfl
    have g10_1 : fs10[1]? = some (.ref ca) := by rw [hz10, List.getElem?_set_ne (by decide)]; exact hfs1
    have g10_2 : fs10[2]? = some (.int (nI 0)) := by rw [hz10, List.getElem?_set_ne (by decide)]; exact hfs2
    have g10_4 : fs10[4]? = some (.int (nI 0)) := by rw [hz10, List.getElem?_set_ne (by decide)]; exact hfs4
    have g10_7 : fs10[7]? = some (.ref ww) := by rw [hz10, List.getElem?_set_ne (by decide)]; exact hfs7
    have g10_8 : fs10[8]? = some (.ref dd) := by rw [hz10, List.getElem?_set_ne (by decide)]; exact hfs8
    have g10_3 : fs10[3]? = some (.int (nI 1)) := by rw [hz10, List.getElem?_set_self (by omega)]
    obtain ⟨f11, hf11⟩ : ∃ g, g = va_up f x (eO 8 fs10) := ⟨_, rfl⟩
    rw [← hf11] at hw
    have h11_x : f11 x = eO 8 fs10 := by rw [hf11]; exact va_up_eq _ _ _
    have h11_ww : f11 ww = eJ G 1440 wr := by rw [hf11, va_up_ne _ _ n_ww_x]; exact hww
    have h11_dd : f11 dd = eI G 60 dr := by rw [hf11, va_up_ne _ _ n_dd_x]; exact hdd
    have h11_ca : f11 ca = eI G 880 (fun _ => 0) := by rw [hf11, va_up_ne _ _ n_ca_x]; exact hca
    have ho11 : ∀ q : Nat, q ≠ x → q ≠ ww → q ≠ dd → q ≠ ca → f11 q = f q := fun q hq0 hq1 hq2 hq3 => (show f11 q = f q from by rw [hf11]; exact va_up_ne _ _ hq0).trans (ho0 q hq0 hq1 hq2 hq3)
    refine lv_aload_n hx hb dX8_parts_27 rfl (lv_at hl 0 rfl) ?_
    refine w_get (C := RX8) (T := TX8) (N := 18) (ci := 8) (ref := "LiftFactorsModel") (v := .int (nI 1)) hx hb hts inX8_u hown hw hxL h11_x rfl 3 (by decide) u_26 rfl g10_3 dX8_parts_28 ?_
    refine lv_if_eq (tgt := 36) hx hb dX8_parts_31 (by decide) (fun h => absurd h (by decide)) (fun _ => ?_)
    refine lv_iconst (v := nI 0) hx hb dX8_parts_34 (by decide) ?_
    exact w_iret (lf := fun g => (L, g)) hx hb hr hlocks f11 hw (⟨(fun h => Bool.noConfusion h), ⟨fs10, h11_x, g10_3⟩, ho11⟩) dX8_parts_35
def okM (m : Int32) : Bool := !(decide (m < nI 1)) && decide (m ≤ nI 1000000)
set_option maxRecDepth 100000 in
set_option maxHeartbeats 4000000 in
theorem lp_X8_value {p : Program} {l : Launch} {e : Env} {R : Room} {s : State} {m : MethodId} {args : Array Value} {below : List Frame} {meth : Method} {c : Code} {cells slots : Nat} {Q : State → Prop} {G : gG} {A : Nat → Prop} {H0 : Heap} {L : List Nat} (hx : p.tables.exec = Jvm.exec) (hb : c.code = cX8_value) (hown : s.vm.findClass RX8 = some m.cls) (hts : ∀ w ∈ uU, w.before args s = true) {f : Nat → va_E} {H : Heap} {locs : List Loc} (hw : wH G A H0 s L f H locs) {x ca p9 mm : Nat} {z : Int32} {fs : List Value} (hxL : x ∈ L) (hxo : f x = eO 8 fs) (hfs1 : fs[1]? = some (.ref ca)) (hcL : ca ∈ L) (hca : f ca = eI G 880 (fun _ => 0)) (hp9 : p9 < 80) (hm0 : 0 < mm) (hmm : mm < 2 ^ 31) (kk : ∀ ls, lv_has ls 7 [(4, .long 0), (3, .int (nI mm))] → W p l e R s m args below meth c H locs cells slots Q (F0 m 82 ls [])) :
    ∀ j : Nat, j ≤ 11 → ∀ ls : Array Slot, lv_has ls 7 [(6, .int (nI j - nI 1)), (4, .long 0), (0, .ref x), (1, .int (nI p9)), (2, .int z), (3, .int (nI mm))] → W p l e R s m args below meth c H locs cells slots Q (F0 m 47 ls []) := by
  intro j
  induction j with
  | zero =>
    intro _ ls hl
    refine lv_iload hx hb dX8_value_47 (lv_at hl 0 rfl) ?_
    refine lv_if_lt (tgt := 82) hx hb dX8_value_49 (by decide) (fun _ => ?_) (fun h => absurd nI_m1_neg h)
    exact kk ls (lv_sub hl [1, 5] rfl)
  | succ j ih =>
    intro hj ls hl
    refine lv_iload hx hb dX8_value_47 (lv_at hl 0 rfl) ?_
    refine lv_if_lt (tgt := 82) hx hb dX8_value_49 (by decide) (fun h => absurd h (by rw [nI_sub1]; exact nI_pos (by omega))) (fun _ => ?_)
    refine lv_lload hx hb dX8_value_52 (lv_at hl 1 rfl) ?_
    refine lv_iload_n hx hb dX8_value_54 rfl (lv_at hl 4 rfl) ?_
    refine lv_i2l (v := z.toInt64) hx hb dX8_value_55 rfl ?_
    refine lv_lmul hx hb dX8_value_56 ?_
    refine lv_aload_n hx hb dX8_value_57 rfl (lv_at hl 2 rfl) ?_
    refine w_get (C := RX8) (T := TX8) (N := 18) (ci := 8) (ref := "LiftFactorsModel") (v := .ref ca) hx hb hts inX8_u hown hw hxL hxo rfl 1 (by decide) u_29 rfl hfs1 dX8_value_58 ?_
    refine lv_bipush (v := nI 11) hx hb dX8_value_61 (by decide) ?_
    refine lv_iload_n hx hb dX8_value_63 rfl (lv_at hl 3 rfl) ?_
    refine lv_imul hx hb dX8_value_64 ?_
    refine w_ti (y := nI (11 * p9)) (pk_mul _ _) ?_
    refine lv_iload hx hb dX8_value_65 (lv_at hl 0 rfl) ?_
    refine w_ti (nI_sub1 j) ?_
    refine lv_iadd hx hb dX8_value_67 ?_
    refine w_ti (y := nI ((11 * p9) + j)) (nI_add _ _) ?_
    refine n_iald hx hb hw hcL hca ((11 * p9) + j) (by omega) (by omega) dX8_value_68 ?_
    refine lv_i2l (v := (((fun _ => 0)) ((11 * p9) + j)).toInt64) hx hb dX8_value_69 rfl ?_
    refine lv_ladd hx hb dX8_value_70 ?_
    refine w_tl (y := 0) (z_mul _) ?_
    refine lv_iload_n hx hb dX8_value_71 rfl (lv_at hl 5 rfl) ?_
    refine lv_i2l (v := (nI mm).toInt64) hx hb dX8_value_72 rfl ?_
    refine w_tl (y := lN mm) (nI_l hmm) ?_
    refine lv_lrem hx hb dX8_value_73 (fun q => by have := (pk_lEQ (a := mm) (b := 0) (by omega) (by omega)).mp q; omega) ?_
    refine w_tl (y := 0) (z_rem _) ?_
    refine lv_lstore (lv' := [(4, .long 0), (6, .int (nI (j + 1) - nI 1)), (0, .ref x), (1, .int (nI p9)), (2, .int z), (3, .int (nI mm))]) hx hb dX8_value_74 hl (by decide) rfl (fun ls hl => ?_)
    refine lv_iinc (v := nI j - nI 1) (lv' := [(6, .int (nI j - nI 1)), (4, .long 0), (0, .ref x), (1, .int (nI p9)), (2, .int z), (3, .int (nI mm))]) hx hb dX8_value_76 hl (k := 1) rfl (by rw [nI_sub1]; exact nI_dec1 j) (by decide) rfl (fun ls hl => ?_)
    refine lv_goto (tgt := 47) hx hb dX8_value_79 (by decide) ?_
    exact ih (by omega) ls hl
set_option maxRecDepth 100000 in
set_option maxHeartbeats 4000000 in
theorem z_X8_value (l : Launch) (G : gG) (L : List Nat) (f : Nat → va_E) (sz : Nat) (x ww dd ca : Nat) (hz : mZ G L f x ww dd ca) (v z q : Int32) :
    Met l yX8_value (uW yX8_value cX8_value 7 (some .int)) { frames := 1, cells := 0, slots := 0, locals := 20 } (wIn G [.ref x, .int v, .int z, .int q] L f sz) (va_Qi (fun (r9 : Int32) (g : Nat → va_E) => ((inB v 80 && okM q) = true → r9 = nI 0) ∧ mO f g x ww dd ca (if inB v 80 then (if okM q then nI 0 else nI 2) else nI 1)) (fun g => wAt G (wA L f sz) L g) (wA L f sz)) 0 0 (wA L f sz) := by
  refine wEnter (by decide) (Nat.le_of_ble_eq_true rfl) ?_
  intro p e s m below meth c ls cx hinit hl hsz hw
  obtain ⟨hx, hb, hr, hml, hown, hts, hlocks⟩ := id cx
  have hown : s.vm.findClass RX8 = some m.cls := hown
  have hl : lv_has ls 7 [(0, .ref x), (1, .int v), (2, .int z), (3, .int q)] := hl
  generalize wA L f sz = A at hw ⊢
  obtain ⟨fs, wr, dr, hxL, hxo, hfl, hfs1, hfs2, hfs3, hfs4, hfs7, hfs8, hwL, hww, hdL, hdd, hcL, hca, hcd⟩ := hz
  have n_x_ww : x ≠ ww := ne_E hww hxo (by simp)
  have n_x_dd : x ≠ dd := ne_E hdd hxo (by simp)
  have n_x_ca : x ≠ ca := ne_E hca hxo (by simp)
  have n_ww_x : ww ≠ x := ne_E hxo hww (by simp)
  have n_ww_dd : ww ≠ dd := ne_E hdd hww (by simp)
  have n_ww_ca : ww ≠ ca := ne_E hca hww (by simp)
  have n_dd_x : dd ≠ x := ne_E hxo hdd (by simp)
  have n_dd_ww : dd ≠ ww := ne_E hww hdd (by simp)
  have n_dd_ca : dd ≠ ca := hcd
  have n_ca_x : ca ≠ x := ne_E hxo hca (by simp)
  have n_ca_ww : ca ≠ ww := ne_E hww hca (by simp)
  have n_ca_dd : ca ≠ dd := (hcd).symm
  have ho0 : ∀ q : Nat, q ≠ x → q ≠ ww → q ≠ dd → q ≠ ca → f q = f q := fun q _ _ _ _ => rfl
  refine lv_aload_n hx hb dX8_value_0 rfl (lv_at hl 0 rfl) ?_
  refine lv_iload_n hx hb dX8_value_1 rfl (lv_at hl 1 rfl) ?_
  refine w_callSi (lf := fun g => (L, g)) (As := [.int v]) (rest := [.ref x]) cx.fix hw (c_X8_isPoly l G L f _ v) (w_cS 1 hts u_41 u_42 u_43 u_44 rfl rfl (by decide) (by decide)) hl.1 rfl (lv_room (Nat.le_of_ble_eq_true rfl)) dX8_value_2 (by decide) (fun r9 u H locs hp hw => ?_)
  rcases hp with ⟨⟨e9, j, hj, ejj⟩ | ⟨e9, hno⟩, e10⟩
  · skip
    have hw : wH G A s.heap s L u H locs := hw
    rw [e10] at hw
    subst e9
    subst ejj
    rw [inB_t (by decide) hj]
    refine lv_if_ne (tgt := 12) hx hb dX8_value_5 (by decide) (fun _ => ?_) (fun h => absurd h (by decide))
    refine lv_iload_n hx hb dX8_value_12 rfl (lv_at hl 3 rfl) ?_
    refine lv_iconst (v := nI 1) hx hb dX8_value_13 (by decide) ?_
    refine lv_icmp_lt (tgt := 23) hx hb dX8_value_14 (by decide) (fun hq1 => ?_) (fun hq1 => ?_)
    · skip
      rw [show okM q = false from by unfold okM; rw [decide_eq_true hq1]; simp]
      refine lv_iconst (v := nI 2) hx hb dX8_value_23 (by decide) ?_
      refine lv_goto (tgt := 28) hx hb dX8_value_24 (by decide) ?_
      refine w_put (C := RX8) (T := TX8) (N := 18) (ci := 8) (ref := "LiftFactorsModel") (ty := .int) (v := .int (nI 2)) hx hb hts inX8_u tyX8 tyX8_ok nmX8 hown hw hxL hxo rfl 3 (by decide) u_26 rfl rfl (by decide +kernel) rfl rfl (by first | omega | decide) dX8_value_28 (fun H locs hw => ?_)
      obtain ⟨fs1, hz1⟩ : ∃ zz9, zz9 = fs.set 3 (.int (nI 2)) := ⟨_, rfl⟩
      rw [← hz1] at hw
      have hlen1 : fs1.length = 18 := by rw [hz1, List.length_set]; exact hfl
      have g1_1 : fs1[1]? = some (.ref ca) := by rw [hz1, List.getElem?_set_ne (by decide)]; exact hfs1
      have g1_2 : fs1[2]? = some (.int (nI 0)) := by rw [hz1, List.getElem?_set_ne (by decide)]; exact hfs2
      have g1_4 : fs1[4]? = some (.int (nI 0)) := by rw [hz1, List.getElem?_set_ne (by decide)]; exact hfs4
      have g1_7 : fs1[7]? = some (.ref ww) := by rw [hz1, List.getElem?_set_ne (by decide)]; exact hfs7
      have g1_8 : fs1[8]? = some (.ref dd) := by rw [hz1, List.getElem?_set_ne (by decide)]; exact hfs8
      have g1_3 : fs1[3]? = some (.int (nI 2)) := by rw [hz1, List.getElem?_set_self (by omega)]
      obtain ⟨f2, hf2⟩ : ∃ g, g = va_up f x (eO 8 fs1) := ⟨_, rfl⟩
      rw [← hf2] at hw
      have h2_x : f2 x = eO 8 fs1 := by rw [hf2]; exact va_up_eq _ _ _
      have h2_ww : f2 ww = eJ G 1440 wr := by rw [hf2, va_up_ne _ _ n_ww_x]; exact hww
      have h2_dd : f2 dd = eI G 60 dr := by rw [hf2, va_up_ne _ _ n_dd_x]; exact hdd
      have h2_ca : f2 ca = eI G 880 (fun _ => 0) := by rw [hf2, va_up_ne _ _ n_ca_x]; exact hca
      have ho2 : ∀ q : Nat, q ≠ x → q ≠ ww → q ≠ dd → q ≠ ca → f2 q = f q := fun q hq0 hq1 hq2 hq3 => (show f2 q = f q from by rw [hf2]; exact va_up_ne _ _ hq0).trans (ho0 q hq0 hq1 hq2 hq3)
      refine lv_aload_n hx hb dX8_value_31 rfl (lv_at hl 0 rfl) ?_
      refine w_get (C := RX8) (T := TX8) (N := 18) (ci := 8) (ref := "LiftFactorsModel") (v := .int (nI 2)) hx hb hts inX8_u hown hw hxL h2_x rfl 3 (by decide) u_26 rfl g1_3 dX8_value_32 ?_
      refine lv_if_eq (tgt := 40) hx hb dX8_value_35 (by decide) (fun h => absurd h (by decide)) (fun _ => ?_)
      refine lv_iconst (v := nI 0) hx hb dX8_value_38 (by decide) ?_
      exact w_iret (lf := fun g => (L, g)) hx hb hr hlocks f2 hw (⟨(fun h => Bool.noConfusion h), ⟨fs1, h2_x, g1_3⟩, ho2⟩) dX8_value_39
    · skip
      refine lv_iload_n hx hb dX8_value_17 rfl (lv_at hl 3 rfl) ?_
      refine lv_ldc (v := nI 1000000) hx hb hown (hts _ u_96) dX8_value_18 ?_
      refine lv_icmp_le (tgt := 27) hx hb dX8_value_20 (by decide) (fun hq2 => ?_) (fun hq2 => ?_)
      · skip
        rw [show okM q = true from by unfold okM; rw [decide_eq_false hq1, decide_eq_true hq2]; rfl]
        obtain ⟨mm, hmm, em⟩ := nI_of2 (x := q) (M := nI 1000000) (n := 1000000) (by decide) (fun z9 => hq1 (by rw [Int32.lt_iff_toInt_lt] at z9 ⊢; have e0 : (0 : Int32).toInt = 0 := rfl; have e2 : (nI 1).toInt = 1 := rfl; omega)) hq2
        subst em
        have hm0 : 0 < mm := by
          rcases Nat.eq_zero_or_pos mm with z9 | z9
          · subst z9; exact absurd (by decide) hq1
          · exact z9
        refine lv_iconst (v := nI 0) hx hb dX8_value_27 (by decide) ?_
        refine w_put (C := RX8) (T := TX8) (N := 18) (ci := 8) (ref := "LiftFactorsModel") (ty := .int) (v := .int (nI 0)) hx hb hts inX8_u tyX8 tyX8_ok nmX8 hown hw hxL hxo rfl 3 (by decide) u_26 rfl rfl (by decide +kernel) rfl rfl (by first | omega | decide) dX8_value_28 (fun H locs hw => ?_)
        obtain ⟨fs3, hz3⟩ : ∃ zz9, zz9 = fs.set 3 (.int (nI 0)) := ⟨_, rfl⟩
        rw [← hz3] at hw
        have hlen3 : fs3.length = 18 := by rw [hz3, List.length_set]; exact hfl
        have g3_1 : fs3[1]? = some (.ref ca) := by rw [hz3, List.getElem?_set_ne (by decide)]; exact hfs1
        have g3_2 : fs3[2]? = some (.int (nI 0)) := by rw [hz3, List.getElem?_set_ne (by decide)]; exact hfs2
        have g3_4 : fs3[4]? = some (.int (nI 0)) := by rw [hz3, List.getElem?_set_ne (by decide)]; exact hfs4
        have g3_7 : fs3[7]? = some (.ref ww) := by rw [hz3, List.getElem?_set_ne (by decide)]; exact hfs7
        have g3_8 : fs3[8]? = some (.ref dd) := by rw [hz3, List.getElem?_set_ne (by decide)]; exact hfs8
        have g3_3 : fs3[3]? = some (.int (nI 0)) := by rw [hz3, List.getElem?_set_self (by omega)]
        obtain ⟨f4, hf4⟩ : ∃ g, g = va_up f x (eO 8 fs3) := ⟨_, rfl⟩
        rw [← hf4] at hw
        have h4_x : f4 x = eO 8 fs3 := by rw [hf4]; exact va_up_eq _ _ _
        have h4_ww : f4 ww = eJ G 1440 wr := by rw [hf4, va_up_ne _ _ n_ww_x]; exact hww
        have h4_dd : f4 dd = eI G 60 dr := by rw [hf4, va_up_ne _ _ n_dd_x]; exact hdd
        have h4_ca : f4 ca = eI G 880 (fun _ => 0) := by rw [hf4, va_up_ne _ _ n_ca_x]; exact hca
        have ho4 : ∀ q : Nat, q ≠ x → q ≠ ww → q ≠ dd → q ≠ ca → f4 q = f q := fun q hq0 hq1 hq2 hq3 => (show f4 q = f q from by rw [hf4]; exact va_up_ne _ _ hq0).trans (ho0 q hq0 hq1 hq2 hq3)
        refine lv_aload_n hx hb dX8_value_31 rfl (lv_at hl 0 rfl) ?_
        refine w_get (C := RX8) (T := TX8) (N := 18) (ci := 8) (ref := "LiftFactorsModel") (v := .int (nI 0)) hx hb hts inX8_u hown hw hxL h4_x rfl 3 (by decide) u_26 rfl g3_3 dX8_value_32 ?_
        refine lv_if_eq (tgt := 40) hx hb dX8_value_35 (by decide) (fun _ => ?_) (fun h => absurd (by decide) h)
        refine lv_lconst (v := 0) hx hb dX8_value_40 (by decide) ?_
        refine lv_lstore (lv' := [(4, .long 0), (0, .ref x), (1, .int (nI j)), (2, .int z), (3, .int (nI mm))]) hx hb dX8_value_41 hl (by decide) rfl (fun ls hl => ?_)
        refine lv_bipush (v := nI 10) hx hb dX8_value_43 (by decide) ?_
        refine lv_istore (lv' := [(6, .int (nI 10)), (4, .long 0), (0, .ref x), (1, .int (nI j)), (2, .int z), (3, .int (nI mm))]) hx hb dX8_value_45 hl (by decide) rfl (fun ls hl => ?_)
        refine lp_X8_value hx hb hown hts hw hxL h4_x g3_1 hcL h4_ca hj hm0 (by omega) (fun ls hl => ?_) 11 (Nat.le_refl _) ls (lv_sub hl [0, 1, 2, 3, 4, 5] rfl)
        refine lv_lload hx hb dX8_value_82 (lv_at hl 0 rfl) ?_
        refine lv_lconst (v := 0) hx hb dX8_value_84 (by decide) ?_
        refine n_lcmp_ge (tgt := 97) hx hb dX8_value_85 dX8_value_86 (by decide) (fun hc => ?_) (fun hc => ?_)
        · skip
          refine lv_lload hx hb dX8_value_97 (lv_at hl 0 rfl) ?_
          refine lv_l2i (v := (0 : Int64).toInt32) hx hb dX8_value_99 rfl ?_
          exact w_iret (lf := fun g => (L, g)) hx hb hr hlocks f4 hw (⟨(fun _ => rfl), ⟨fs3, h4_x, g3_3⟩, ho4⟩) dX8_value_100
        · skip
          exact (Int64.lt_irrefl hc).elim
      · skip
        rw [show okM q = false from by unfold okM; rw [decide_eq_false hq2]; simp]
        refine lv_iconst (v := nI 2) hx hb dX8_value_23 (by decide) ?_
        refine lv_goto (tgt := 28) hx hb dX8_value_24 (by decide) ?_
        refine w_put (C := RX8) (T := TX8) (N := 18) (ci := 8) (ref := "LiftFactorsModel") (ty := .int) (v := .int (nI 2)) hx hb hts inX8_u tyX8 tyX8_ok nmX8 hown hw hxL hxo rfl 3 (by decide) u_26 rfl rfl (by decide +kernel) rfl rfl (by first | omega | decide) dX8_value_28 (fun H locs hw => ?_)
        obtain ⟨fs5, hz5⟩ : ∃ zz9, zz9 = fs.set 3 (.int (nI 2)) := ⟨_, rfl⟩
        rw [← hz5] at hw
        have hlen5 : fs5.length = 18 := by rw [hz5, List.length_set]; exact hfl
        have g5_1 : fs5[1]? = some (.ref ca) := by rw [hz5, List.getElem?_set_ne (by decide)]; exact hfs1
        have g5_2 : fs5[2]? = some (.int (nI 0)) := by rw [hz5, List.getElem?_set_ne (by decide)]; exact hfs2
        have g5_4 : fs5[4]? = some (.int (nI 0)) := by rw [hz5, List.getElem?_set_ne (by decide)]; exact hfs4
        have g5_7 : fs5[7]? = some (.ref ww) := by rw [hz5, List.getElem?_set_ne (by decide)]; exact hfs7
        have g5_8 : fs5[8]? = some (.ref dd) := by rw [hz5, List.getElem?_set_ne (by decide)]; exact hfs8
        have g5_3 : fs5[3]? = some (.int (nI 2)) := by rw [hz5, List.getElem?_set_self (by omega)]
        obtain ⟨f6, hf6⟩ : ∃ g, g = va_up f x (eO 8 fs5) := ⟨_, rfl⟩
        rw [← hf6] at hw
        have h6_x : f6 x = eO 8 fs5 := by rw [hf6]; exact va_up_eq _ _ _
        have h6_ww : f6 ww = eJ G 1440 wr := by rw [hf6, va_up_ne _ _ n_ww_x]; exact hww
        have h6_dd : f6 dd = eI G 60 dr := by rw [hf6, va_up_ne _ _ n_dd_x]; exact hdd
        have h6_ca : f6 ca = eI G 880 (fun _ => 0) := by rw [hf6, va_up_ne _ _ n_ca_x]; exact hca
        have ho6 : ∀ q : Nat, q ≠ x → q ≠ ww → q ≠ dd → q ≠ ca → f6 q = f q := fun q hq0 hq1 hq2 hq3 => (show f6 q = f q from by rw [hf6]; exact va_up_ne _ _ hq0).trans (ho0 q hq0 hq1 hq2 hq3)
        refine lv_aload_n hx hb dX8_value_31 rfl (lv_at hl 0 rfl) ?_
        refine w_get (C := RX8) (T := TX8) (N := 18) (ci := 8) (ref := "LiftFactorsModel") (v := .int (nI 2)) hx hb hts inX8_u hown hw hxL h6_x rfl 3 (by decide) u_26 rfl g5_3 dX8_value_32 ?_
        refine lv_if_eq (tgt := 40) hx hb dX8_value_35 (by decide) (fun h => absurd h (by decide)) (fun _ => ?_)
        refine lv_iconst (v := nI 0) hx hb dX8_value_38 (by decide) ?_
        exact w_iret (lf := fun g => (L, g)) hx hb hr hlocks f6 hw (⟨(fun h => Bool.noConfusion h), ⟨fs5, h6_x, g5_3⟩, ho6⟩) dX8_value_39
  · skip
    have hw : wH G A s.heap s L u H locs := hw
    rw [e10] at hw
    subst e9
    rw [inB_f (by decide) hno]
    refine lv_if_ne (tgt := 12) hx hb dX8_value_5 (by decide) (fun h => absurd (by decide) h) (fun _ => ?_)
    refine lv_iconst (v := nI 1) hx hb dX8_value_8 (by decide) ?_
    refine lv_goto (tgt := 28) hx hb dX8_value_9 (by decide) ?_
    refine w_put (C := RX8) (T := TX8) (N := 18) (ci := 8) (ref := "LiftFactorsModel") (ty := .int) (v := .int (nI 1)) hx hb hts inX8_u tyX8 tyX8_ok nmX8 hown hw hxL hxo rfl 3 (by decide) u_26 rfl rfl (by decide +kernel) rfl rfl (by first | omega | decide) dX8_value_28 (fun H locs hw => ?_)
    obtain ⟨fs7, hz7⟩ : ∃ zz9, zz9 = fs.set 3 (.int (nI 1)) := ⟨_, rfl⟩
    rw [← hz7] at hw
    have hlen7 : fs7.length = 18 := by rw [hz7, List.length_set]; exact hfl
    have g7_1 : fs7[1]? = some (.ref ca) := by rw [hz7, List.getElem?_set_ne (by decide)]; exact hfs1
    have g7_2 : fs7[2]? = some (.int (nI 0)) := by rw [hz7, List.getElem?_set_ne (by decide)]; exact hfs2
    have g7_4 : fs7[4]? = some (.int (nI 0)) := by rw [hz7, List.getElem?_set_ne (by decide)]; exact hfs4
    have g7_7 : fs7[7]? = some (.ref ww) := by rw [hz7, List.getElem?_set_ne (by decide)]; exact hfs7
    have g7_8 : fs7[8]? = some (.ref dd) := by rw [hz7, List.getElem?_set_ne (by decide)]; exact hfs8
    have g7_3 : fs7[3]? = some (.int (nI 1)) := by rw [hz7, List.getElem?_set_self (by omega)]
    obtain ⟨f8, hf8⟩ : ∃ g, g = va_up f x (eO 8 fs7) := ⟨_, rfl⟩
    rw [← hf8] at hw
    have h8_x : f8 x = eO 8 fs7 := by rw [hf8]; exact va_up_eq _ _ _
    have h8_ww : f8 ww = eJ G 1440 wr := by rw [hf8, va_up_ne _ _ n_ww_x]; exact hww
    have h8_dd : f8 dd = eI G 60 dr := by rw [hf8, va_up_ne _ _ n_dd_x]; exact hdd
    have h8_ca : f8 ca = eI G 880 (fun _ => 0) := by rw [hf8, va_up_ne _ _ n_ca_x]; exact hca
    have ho8 : ∀ q : Nat, q ≠ x → q ≠ ww → q ≠ dd → q ≠ ca → f8 q = f q := fun q hq0 hq1 hq2 hq3 => (show f8 q = f q from by rw [hf8]; exact va_up_ne _ _ hq0).trans (ho0 q hq0 hq1 hq2 hq3)
    refine lv_aload_n hx hb dX8_value_31 rfl (lv_at hl 0 rfl) ?_
    refine w_get (C := RX8) (T := TX8) (N := 18) (ci := 8) (ref := "LiftFactorsModel") (v := .int (nI 1)) hx hb hts inX8_u hown hw hxL h8_x rfl 3 (by decide) u_26 rfl g7_3 dX8_value_32 ?_
    refine lv_if_eq (tgt := 40) hx hb dX8_value_35 (by decide) (fun h => absurd h (by decide)) (fun _ => ?_)
    refine lv_iconst (v := nI 0) hx hb dX8_value_38 (by decide) ?_
    exact w_iret (lf := fun g => (L, g)) hx hb hr hlocks f8 hw (⟨(fun h => Bool.noConfusion h), ⟨fs7, h8_x, g7_3⟩, ho8⟩) dX8_value_39
