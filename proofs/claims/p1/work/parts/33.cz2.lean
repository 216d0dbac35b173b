theorem u_115 : Cond.methodLink RX7 89 yX7_requireNumber ∈ uU := uU_in (by decide +kernel) (by decide +kernel)
theorem u_116 : Cond.instanceMethod yX7_requireNumber ∈ uU := uU_in (by decide +kernel) (by decide +kernel)
theorem u_117 : Cond.selects yX7_requireNumber.cls yX7_requireNumber yX7_requireNumber ∈ uU := uU_in (by decide +kernel) (by decide +kernel)
theorem u_118 : Cond.initialized yX7_requireNumber.cls ∈ uU := uU_in (by decide +kernel) (by decide +kernel)
theorem u_119 : Cond.code yX7_requireNumber cX7_requireNumber 1 none ∈ uU := uU_in (by decide +kernel) (by decide +kernel)
theorem u_120 : Cond.fieldLink RX7 35 "LiftFactors" "result" "[J" ∈ uU := uU_in (by decide +kernel) (by decide +kernel)
theorem u_121 : Cond.methodLink RX7 92 yJ7_fill_d0a16 ∈ uU := uU_in (by decide +kernel) (by decide +kernel)
theorem u_122 : Cond.static yJ7_fill_d0a16 ∈ uU := uU_in (by decide +kernel) (by decide +kernel)
theorem u_123 : Cond.initialized yJ7_fill_d0a16.cls ∈ uU := uU_in (by decide +kernel) (by decide +kernel)
theorem u_124 : Cond.code yJ7_fill_d0a16 cJ7_fill_d0a16 5 none ∈ uU := uU_in (by decide +kernel) (by decide +kernel)
theorem u_125 : Cond.methodLink RX7 98 yX7_keep ∈ uU := uU_in (by decide +kernel) (by decide +kernel)
theorem u_126 : Cond.instanceMethod yX7_keep ∈ uU := uU_in (by decide +kernel) (by decide +kernel)
theorem u_127 : Cond.selects yX7_keep.cls yX7_keep yX7_keep ∈ uU := uU_in (by decide +kernel) (by decide +kernel)
theorem u_128 : Cond.initialized yX7_keep.cls ∈ uU := uU_in (by decide +kernel) (by decide +kernel)
theorem u_129 : Cond.code yX7_keep cX7_keep 4 (some .int) ∈ uU := uU_in (by decide +kernel) (by decide +kernel)
theorem u_130 : Cond.methodLink RX7 106 yX7_requirePower ∈ uU := uU_in (by decide +kernel) (by decide +kernel)
theorem u_131 : Cond.static yX7_requirePower ∈ uU := uU_in (by decide +kernel) (by decide +kernel)
theorem u_132 : Cond.initialized yX7_requirePower.cls ∈ uU := uU_in (by decide +kernel) (by decide +kernel)
theorem u_133 : Cond.code yX7_requirePower cX7_requirePower 1 none ∈ uU := uU_in (by decide +kernel) (by decide +kernel)
theorem u_134 : Cond.methodLink RX7 156 yX5_makePrimitive ∈ uU := uU_in (by decide +kernel) (by decide +kernel)
theorem u_135 : Cond.fieldLink RX7 85 "LiftFactors" "rootFinder" "LLiftFactors$RootFinder;" ∈ uU := uU_in (by decide +kernel) (by decide +kernel)
theorem u_136 : Cond.methodLink RX7 180 yX4_findRoots ∈ uU := uU_in (by decide +kernel) (by decide +kernel)
theorem u_137 : Cond.instanceMethod yX4_findRoots ∈ uU := uU_in (by decide +kernel) (by decide +kernel)
theorem u_138 : Cond.selects yX4_findRoots.cls yX4_findRoots yX4_findRoots ∈ uU := uU_in (by decide +kernel) (by decide +kernel)
theorem u_139 : Cond.initialized yX4_findRoots.cls ∈ uU := uU_in (by decide +kernel) (by decide +kernel)
theorem u_140 : Cond.code yX4_findRoots cX4_findRoots 8 none ∈ uU := uU_in (by decide +kernel) (by decide +kernel)
theorem u_141 : Cond.fieldLink RX7 183 "LiftFactors$RootFinder" "found" "I" ∈ uU := uU_in (by decide +kernel) (by decide +kernel)
theorem u_142 : Cond.fieldLink RX7 32 "LiftFactors" "second" "[J" ∈ uU := uU_in (by decide +kernel) (by decide +kernel)
theorem u_143 : Cond.fieldLink RX7 60 "LiftFactors" "common" "LLiftFactors$CommonDivisor;" ∈ uU := uU_in (by decide +kernel) (by decide +kernel)
theorem u_144 : Cond.methodLink RX7 147 yX0_find ∈ uU := uU_in (by decide +kernel) (by decide +kernel)
theorem u_145 : Cond.instanceMethod yX0_find ∈ uU := uU_in (by decide +kernel) (by decide +kernel)
theorem u_146 : Cond.selects yX0_find.cls yX0_find yX0_find ∈ uU := uU_in (by decide +kernel) (by decide +kernel)
theorem u_147 : Cond.initialized yX0_find.cls ∈ uU := uU_in (by decide +kernel) (by decide +kernel)
theorem u_148 : Cond.code yX0_find cX0_find 10 none ∈ uU := uU_in (by decide +kernel) (by decide +kernel)
theorem u_149 : Cond.methodLink RX7 120 yX7_isTooGreat ∈ uU := uU_in (by decide +kernel) (by decide +kernel)
theorem u_150 : Cond.static yX7_isTooGreat ∈ uU := uU_in (by decide +kernel) (by decide +kernel)
theorem u_151 : Cond.initialized yX7_isTooGreat.cls ∈ uU := uU_in (by decide +kernel) (by decide +kernel)
theorem u_152 : Cond.code yX7_isTooGreat cX7_isTooGreat 4 (some .boolean) ∈ uU := uU_in (by decide +kernel) (by decide +kernel)
theorem u_153 : Cond.methodLink RX7 195 yX7_isSmallPrime ∈ uU := uU_in (by decide +kernel) (by decide +kernel)
theorem u_154 : Cond.static yX7_isSmallPrime ∈ uU := uU_in (by decide +kernel) (by decide +kernel)
theorem u_155 : Cond.initialized yX7_isSmallPrime.cls ∈ uU := uU_in (by decide +kernel) (by decide +kernel)
theorem u_156 : Cond.code yX7_isSmallPrime cX7_isSmallPrime 2 (some .boolean) ∈ uU := uU_in (by decide +kernel) (by decide +kernel)
set_option maxRecDepth 100000 in
set_option maxHeartbeats 4000000 in
theorem z_X7_poly (l : Launch) (G : gG) (L : List Nat) (f : Nat → va_E) (sz : Nat) (x : Nat) (own : Nat → Prop) (hz : cZ G L f x own)  :
    Met l yX7_poly (uW yX7_poly cX7_poly 1 (some .int)) { frames := 1, cells := 0, slots := 0, locals := 24 } (wIn G [.ref x] L f sz) (va_Qi (fun (r9 : Int32) (g : Nat → va_E) => r9 = nI 0 ∧ cO own f g) (fun g => wAt G (wA L f sz) L g) (wA L f sz)) 0 0 (wA L f sz) := by
  refine wEnter (by decide) (Nat.le_of_ble_eq_true rfl) ?_
  intro p e s m below meth c ls cx hinit hl hsz hw
  obtain ⟨hx, hb, hr, hml, hown, hts, hlocks⟩ := id cx
  have hown : s.vm.findClass RX7 = some m.cls := hown
  have hl : lv_has ls 1 [(0, .ref x)] := hl
  generalize wA L f sz = A at hw ⊢
  obtain ⟨fs, fs6, fs3, co, b1, b2, b3, b4, o3, o6, cr0, cr, r1, r2, r3, r4, hxL, hxo, hfl, hfs0, hfs1, hfs4, hfs5, hfs6, hfs7, hfs8, hfs11, hfs14, hcoL, hco, hcr, hcrL, hcv, h1L, hb1, h2L, hb2, h3L, hb3, h4L, hb4, n12, n13, n23, ho3L, ho3, ho6L, ho6, hfl6, ow_x, ow_b1, ow_b2, ow_b3, ow_b4, ow_o6, ow_cr⟩ := hz
  have n_x_b1 : x ≠ b1 := ne_E hb1 hxo (by simp)
  have n_x_b2 : x ≠ b2 := ne_E hb2 hxo (by simp)
  have n_x_b3 : x ≠ b3 := ne_E hb3 hxo (by simp)
  have n_x_b4 : x ≠ b4 := ne_E hb4 hxo (by simp)
  have n_x_co : x ≠ co := ne_E hco hxo (by simp)
  have n_x_o3 : x ≠ o3 := ne_E ho3 hxo (by simp)
  have n_x_o6 : x ≠ o6 := ne_E ho6 hxo (by simp)
  have n_b1_x : b1 ≠ x := ne_E hxo hb1 (by simp)
  have n_b1_b2 : b1 ≠ b2 := n12
  have n_b1_b3 : b1 ≠ b3 := n13
  have n_b1_b4 : b1 ≠ b4 := ne_E hb4 hb1 (by simp)
  have n_b1_co : b1 ≠ co := ne_E hco hb1 (by simp)
  have n_b1_o3 : b1 ≠ o3 := ne_E ho3 hb1 (by simp)
  have n_b1_o6 : b1 ≠ o6 := ne_E ho6 hb1 (by simp)
  have n_b2_x : b2 ≠ x := ne_E hxo hb2 (by simp)
  have n_b2_b1 : b2 ≠ b1 := (n12).symm
  have n_b2_b3 : b2 ≠ b3 := n23
  have n_b2_b4 : b2 ≠ b4 := ne_E hb4 hb2 (by simp)
  have n_b2_co : b2 ≠ co := ne_E hco hb2 (by simp)
  have n_b2_o3 : b2 ≠ o3 := ne_E ho3 hb2 (by simp)
  have n_b2_o6 : b2 ≠ o6 := ne_E ho6 hb2 (by simp)
  have n_b3_x : b3 ≠ x := ne_E hxo hb3 (by simp)
  have n_b3_b1 : b3 ≠ b1 := (n13).symm
  have n_b3_b2 : b3 ≠ b2 := (n23).symm
  have n_b3_b4 : b3 ≠ b4 := ne_E hb4 hb3 (by simp)
  have n_b3_co : b3 ≠ co := ne_E hco hb3 (by simp)
  have n_b3_o3 : b3 ≠ o3 := ne_E ho3 hb3 (by simp)
  have n_b3_o6 : b3 ≠ o6 := ne_E ho6 hb3 (by simp)
  have n_b4_x : b4 ≠ x := ne_E hxo hb4 (by simp)
  have n_b4_b1 : b4 ≠ b1 := ne_E hb1 hb4 (by simp)
  have n_b4_b2 : b4 ≠ b2 := ne_E hb2 hb4 (by simp)
  have n_b4_b3 : b4 ≠ b3 := ne_E hb3 hb4 (by simp)
  have n_b4_co : b4 ≠ co := ne_E hco hb4 (by simp)
  have n_b4_o3 : b4 ≠ o3 := ne_E ho3 hb4 (by simp)
  have n_b4_o6 : b4 ≠ o6 := ne_E ho6 hb4 (by simp)
  have n_co_x : co ≠ x := ne_E hxo hco (by simp)
  have n_co_b1 : co ≠ b1 := ne_E hb1 hco (by simp)
  have n_co_b2 : co ≠ b2 := ne_E hb2 hco (by simp)
  have n_co_b3 : co ≠ b3 := ne_E hb3 hco (by simp)
  have n_co_b4 : co ≠ b4 := ne_E hb4 hco (by simp)
  have n_co_o3 : co ≠ o3 := ne_E ho3 hco (by simp)
  have n_co_o6 : co ≠ o6 := ne_E ho6 hco (by simp)
  have n_o3_x : o3 ≠ x := ne_E hxo ho3 (by simp)
  have n_o3_b1 : o3 ≠ b1 := ne_E hb1 ho3 (by simp)
  have n_o3_b2 : o3 ≠ b2 := ne_E hb2 ho3 (by simp)
  have n_o3_b3 : o3 ≠ b3 := ne_E hb3 ho3 (by simp)
  have n_o3_b4 : o3 ≠ b4 := ne_E hb4 ho3 (by simp)
  have n_o3_co : o3 ≠ co := ne_E hco ho3 (by simp)
  have n_o3_o6 : o3 ≠ o6 := ne_E ho6 ho3 (by simp)
  have n_o6_x : o6 ≠ x := ne_E hxo ho6 (by simp)
  have n_o6_b1 : o6 ≠ b1 := ne_E hb1 ho6 (by simp)
  have n_o6_b2 : o6 ≠ b2 := ne_E hb2 ho6 (by simp)
  have n_o6_b3 : o6 ≠ b3 := ne_E hb3 ho6 (by simp)
  have n_o6_b4 : o6 ≠ b4 := ne_E hb4 ho6 (by simp)
  have n_o6_co : o6 ≠ co := ne_E hco ho6 (by simp)
  have n_o6_o3 : o6 ≠ o3 := ne_E ho3 ho6 (by simp)
  have ho0 : ∀ q : Nat, ¬ own q → f q = f q := fun q _ => rfl
  have hncr_x : ∀ j, j < 80 → cr j ≠ x := fun j hj => ne_E hxo (hcv j hj) (by simp)
  have hncr_b1 : ∀ j, j < 80 → cr j ≠ b1 := fun j hj => ne_E hb1 (hcv j hj) (by simp)
  have hncr_b2 : ∀ j, j < 80 → cr j ≠ b2 := fun j hj => ne_E hb2 (hcv j hj) (by simp)
  have hncr_b3 : ∀ j, j < 80 → cr j ≠ b3 := fun j hj => ne_E hb3 (hcv j hj) (by simp)
  have hncr_b4 : ∀ j, j < 80 → cr j ≠ b4 := fun j hj => ne_E hb4 (hcv j hj) (by simp)
  have hncr_o6 : ∀ j, j < 80 → cr j ≠ o6 := fun j hj => ne_E ho6 (hcv j hj) (by simp)
  refine lv_aload_n hx hb dX7_poly_0 rfl (lv_at hl 0 rfl) ?_
  refine w_callVv (lf := fun g => (L, g)) (As := []) (rest := []) cx.fix hw (c_X7_requireNumber0 l G L f _ x fs hxL hxo hfs1) hxL hxo rfl rfl (w_cV 0 hts u_115 u_116 u_117 u_118 u_119 rfl rfl (by decide) (by decide)) hl.1 rfl (lv_room (Nat.le_of_ble_eq_true rfl)) dX7_poly_1 (by decide) (fun u H locs hp hw => ?_)
  have hw : wH G A s.heap s L u H locs := hw
  rw [hp] at hw
  refine lv_aload_n hx hb dX7_poly_4 rfl (lv_at hl 0 rfl) ?_
  refine w_get (C := RX7) (T := TX7) (N := 15) (ci := 7) (ref := "LiftFactors") (v := .ref b3) hx hb hts inX7_u hown hw hxL hxo rfl 7 (by decide) u_120 rfl hfs7 dX7_poly_5 ?_
  refine lv_lconst (v := 0) hx hb dX7_poly_8 (by decide) ?_
  refine w_callSv (lf := fun g => (L, g)) (As := [.ref b3, .long 0]) (rest := []) cx.fix hw (c_J7_fillJ l G L f _ b3 11 r3 0 h3L hb3 (by decide)) (w_cS 2 hts u_121 u_122 u_123 u_124 rfl rfl (by decide) (by decide)) hl.1 rfl (lv_room (Nat.le_of_ble_eq_true rfl)) dX7_poly_9 (by decide) (fun u H locs hp hw => ?_)
  have hw : wH G A s.heap s L u H locs := hw
  rw [hp] at hw
  obtain ⟨f1, hf1⟩ : ∃ g, g = va_up f b3 (eJ G 11 (prL (fun _ => 0) r3 11)) := ⟨_, rfl⟩
  rw [← hf1] at hw
  have h1_x : f1 x = eO 7 fs := by rw [hf1, va_up_ne _ _ n_x_b3]; exact hxo
  have h1_b1 : f1 b1 = eJ G 11 r1 := by rw [hf1, va_up_ne _ _ n_b1_b3]; exact hb1
  have h1_b2 : f1 b2 = eJ G 11 r2 := by rw [hf1, va_up_ne _ _ n_b2_b3]; exact hb2
  have h1_b3 : f1 b3 = eJ G 11 (prL (fun _ => 0) r3 11) := by rw [hf1]; exact va_up_eq _ _ _
  have h1_b4 : f1 b4 = eJ G 21 r4 := by rw [hf1, va_up_ne _ _ n_b4_b3]; exact hb4
  have h1_co : f1 co = eII G 80 cr0 := by rw [hf1, va_up_ne _ _ n_co_b3]; exact hco
  have h1_o3 : f1 o3 = eO 1 fs3 := by rw [hf1, va_up_ne _ _ n_o3_b3]; exact ho3
  have h1_o6 : f1 o6 = eO 5 fs6 := by rw [hf1, va_up_ne _ _ n_o6_b3]; exact ho6
  have hcv1 : ∀ j, j < 80 → f1 (cr j) = eI G 11 (fun _ => 0) := fun j hj => by rw [hf1, va_up_ne _ _ (hncr_b3 j hj)]; exact hcv j hj
  have ho1 : ∀ q : Nat, ¬ own q → f1 q = f q := fun q hq => (show f1 q = f q from by rw [hf1]; exact va_up_ne _ _ (fun h9 => hq (by rw [h9]; exact ow_b3))).trans (ho0 q hq)
  refine lv_aload_n hx hb dX7_poly_12 rfl (lv_at hl 0 rfl) ?_
  refine lv_aload_n hx hb dX7_poly_13 rfl (lv_at hl 0 rfl) ?_
  refine w_get (C := RX7) (T := TX7) (N := 15) (ci := 7) (ref := "LiftFactors") (v := .ref b3) hx hb hts inX7_u hown hw hxL h1_x rfl 7 (by decide) u_120 rfl hfs7 dX7_poly_14 ?_
  refine w_callVi (lf := fun g => (L, g)) (As := [.ref b3]) (rest := []) cx.fix hw (c_X7_keep l G L f1 _ x b3 co 0 11 fs cr0 cr (fun _ _ => 0 : Nat → Nat → Int32) (prL (fun _ => 0) r3 11) hxL h1_x hfl hfs0 hfs1 h1_co hcoL hcr hcrL hcv1 h3L h1_b3 (by decide) (by decide) (by decide)) hxL h1_x rfl rfl (w_cV 1 hts u_125 u_126 u_127 u_128 u_129 rfl rfl (by decide) (by decide)) hl.1 rfl (lv_room (Nat.le_of_ble_eq_true rfl)) dX7_poly_17 (by decide) (fun r9 u H locs hp hw => ?_)
  obtain ⟨e9, e10⟩ := hp
  have hw : wH G A s.heap s L u H locs := hw
  rw [e10] at hw
  subst e9
  exact w_iret (lf := fun g => (L, g)) hx hb hr hlocks _ hw (⟨rfl, fun q hq => ((va_up_ne _ _ (fun h9 => hq (by rw [h9]; exact ow_x))).trans (va_up_ne _ _ (fun h9 => hq (by rw [h9]; exact ow_cr 0 (by decide))))).trans (ho1 q hq)⟩) dX7_poly_20
set_option maxRecDepth 100000 in
set_option maxHeartbeats 4000000 in
theorem z_X7_at (l : Launch) (hl0 : l.stackTraces = false) (G : gG) (L : List Nat) (f : Nat → va_E) (sz : Nat) (x : Nat) (own : Nat → Prop) (hz : cZ G L f x own) (v k : Int32) :
    vx_Met l yX7_at (uW yX7_at cX7_at 3 (some .int)) { frames := 8, cells := 2, slots := 12, locals := 115 } (wInX G [.ref x, .int v, .int k] L f sz) (va_Qi (fun (r9 : Int32) (g : Nat → va_E) => ((inB v 80 && inB k 11) = true ∧ r9 = nI 0) ∧ cO own f g) (fun g => wAt G (wA L f sz) L g) (wA L f sz)) (xX G (wA L f sz) L (fun E g => E = nAI ∧ (inB v 80 && inB k 11) = false ∧ cO own f g)) 2 12 (wA L f sz) := by
  refine wEnterX (by decide) (Nat.le_of_ble_eq_true rfl) ?_
  intro p e s m below meth c ls cx hnt hl hsz hw hX
  obtain ⟨hx, hb, hr, hml, hown, hts, hlocks⟩ := id cx
  have hown : s.vm.findClass RX7 = some m.cls := hown
  have hl : lv_has ls 3 [(0, .ref x), (1, .int v), (2, .int k)] := hl
  generalize wA L f sz = A at hw hX ⊢
  obtain ⟨fs, fs6, fs3, co, b1, b2, b3, b4, o3, o6, cr0, cr, r1, r2, r3, r4, hxL, hxo, hfl, hfs0, hfs1, hfs4, hfs5, hfs6, hfs7, hfs8, hfs11, hfs14, hcoL, hco, hcr, hcrL, hcv, h1L, hb1, h2L, hb2, h3L, hb3, h4L, hb4, n12, n13, n23, ho3L, ho3, ho6L, ho6, hfl6, ow_x, ow_b1, ow_b2, ow_b3, ow_b4, ow_o6, ow_cr⟩ := hz
  have n_x_b1 : x ≠ b1 := ne_E hb1 hxo (by simp)
  have n_x_b2 : x ≠ b2 := ne_E hb2 hxo (by simp)
  have n_x_b3 : x ≠ b3 := ne_E hb3 hxo (by simp)
  have n_x_b4 : x ≠ b4 := ne_E hb4 hxo (by simp)
  have n_x_co : x ≠ co := ne_E hco hxo (by simp)
  have n_x_o3 : x ≠ o3 := ne_E ho3 hxo (by simp)
  have n_x_o6 : x ≠ o6 := ne_E ho6 hxo (by simp)
  have n_b1_x : b1 ≠ x := ne_E hxo hb1 (by simp)
  have n_b1_b2 : b1 ≠ b2 := n12
  have n_b1_b3 : b1 ≠ b3 := n13
  have n_b1_b4 : b1 ≠ b4 := ne_E hb4 hb1 (by simp)
  have n_b1_co : b1 ≠ co := ne_E hco hb1 (by simp)
  have n_b1_o3 : b1 ≠ o3 := ne_E ho3 hb1 (by simp)
  have n_b1_o6 : b1 ≠ o6 := ne_E ho6 hb1 (by simp)
  have n_b2_x : b2 ≠ x := ne_E hxo hb2 (by simp)
  have n_b2_b1 : b2 ≠ b1 := (n12).symm
  have n_b2_b3 : b2 ≠ b3 := n23
  have n_b2_b4 : b2 ≠ b4 := ne_E hb4 hb2 (by simp)
  have n_b2_co : b2 ≠ co := ne_E hco hb2 (by simp)
  have n_b2_o3 : b2 ≠ o3 := ne_E ho3 hb2 (by simp)
  have n_b2_o6 : b2 ≠ o6 := ne_E ho6 hb2 (by simp)
  have n_b3_x : b3 ≠ x := ne_E hxo hb3 (by simp)
  have n_b3_b1 : b3 ≠ b1 := (n13).symm
  have n_b3_b2 : b3 ≠ b2 := (n23).symm
  have n_b3_b4 : b3 ≠ b4 := ne_E hb4 hb3 (by simp)
  have n_b3_co : b3 ≠ co := ne_E hco hb3 (by simp)
  have n_b3_o3 : b3 ≠ o3 := ne_E ho3 hb3 (by simp)
  have n_b3_o6 : b3 ≠ o6 := ne_E ho6 hb3 (by simp)
  have n_b4_x : b4 ≠ x := ne_E hxo hb4 (by simp)
  have n_b4_b1 : b4 ≠ b1 := ne_E hb1 hb4 (by simp)
  have n_b4_b2 : b4 ≠ b2 := ne_E hb2 hb4 (by simp)
  have n_b4_b3 : b4 ≠ b3 := ne_E hb3 hb4 (by simp)
  have n_b4_co : b4 ≠ co := ne_E hco hb4 (by simp)
  have n_b4_o3 : b4 ≠ o3 := ne_E ho3 hb4 (by simp)
  have n_b4_o6 : b4 ≠ o6 := ne_E ho6 hb4 (by simp)
  have n_co_x : co ≠ x := ne_E hxo hco (by simp)
  have n_co_b1 : co ≠ b1 := ne_E hb1 hco (by simp)
  have n_co_b2 : co ≠ b2 := ne_E hb2 hco (by simp)
  have n_co_b3 : co ≠ b3 := ne_E hb3 hco (by simp)
  have n_co_b4 : co ≠ b4 := ne_E hb4 hco (by simp)
  have n_co_o3 : co ≠ o3 := ne_E ho3 hco (by simp)
  have n_co_o6 : co ≠ o6 := ne_E ho6 hco (by simp)
  have n_o3_x : o3 ≠ x := ne_E hxo ho3 (by simp)
  have n_o3_b1 : o3 ≠ b1 := ne_E hb1 ho3 (by simp)
  have n_o3_b2 : o3 ≠ b2 := ne_E hb2 ho3 (by simp)
  have n_o3_b3 : o3 ≠ b3 := ne_E hb3 ho3 (by simp)
  have n_o3_b4 : o3 ≠ b4 := ne_E hb4 ho3 (by simp)
  have n_o3_co : o3 ≠ co := ne_E hco ho3 (by simp)
  have n_o3_o6 : o3 ≠ o6 := ne_E ho6 ho3 (by simp)
  have n_o6_x : o6 ≠ x := ne_E hxo ho6 (by simp)
  have n_o6_b1 : o6 ≠ b1 := ne_E hb1 ho6 (by simp)
  have n_o6_b2 : o6 ≠ b2 := ne_E hb2 ho6 (by simp)
  have n_o6_b3 : o6 ≠ b3 := ne_E hb3 ho6 (by simp)
  have n_o6_b4 : o6 ≠ b4 := ne_E hb4 ho6 (by simp)
  have n_o6_co : o6 ≠ co := ne_E hco ho6 (by simp)
  have n_o6_o3 : o6 ≠ o3 := ne_E ho3 ho6 (by simp)
  have ho0 : ∀ q : Nat, ¬ own q → f q = f q := fun q _ => rfl
  have hncr_x : ∀ j, j < 80 → cr j ≠ x := fun j hj => ne_E hxo (hcv j hj) (by simp)
  have hncr_b1 : ∀ j, j < 80 → cr j ≠ b1 := fun j hj => ne_E hb1 (hcv j hj) (by simp)
  have hncr_b2 : ∀ j, j < 80 → cr j ≠ b2 := fun j hj => ne_E hb2 (hcv j hj) (by simp)
  have hncr_b3 : ∀ j, j < 80 → cr j ≠ b3 := fun j hj => ne_E hb3 (hcv j hj) (by simp)
  have hncr_b4 : ∀ j, j < 80 → cr j ≠ b4 := fun j hj => ne_E hb4 (hcv j hj) (by simp)
  have hncr_o6 : ∀ j, j < 80 → cr j ≠ o6 := fun j hj => ne_E ho6 (hcv j hj) (by simp)
  refine lv_iload_n hx hb dX7_at_0 rfl (lv_at hl 1 rfl) ?_
  refine x_callSv (As := [.int v]) (rest := []) cx.fix hX hw (x_X7_requirePolynomial l hl0 G L f _ v) (w_cS 1 hts u_98 u_99 u_100 u_101 rfl rfl (by decide) (by decide)) hl.1 rfl (lv_room (Nat.le_of_ble_eq_true rfl)) dX7_at_1 (by decide) (fun E ce q9 u H locs hpe hw hce hcv hcl => ?_) (fun u H locs hp hw => ?_)
  · obtain ⟨hE, hno, e10⟩ := hpe
    rw [e10] at hw
    exact x_out hnt hlocks hw (⟨hE, by rw [hno]; rfl, ho0⟩) hce hcv hcl (by decide) (by decide)
  obtain ⟨hinj, e10⟩ := hp
  rw [e10] at hw
  obtain ⟨j, hj, ejj⟩ := inB_of (by decide) hinj
  subst ejj
  refine lv_iload_n hx hb dX7_at_4 rfl (lv_at hl 2 rfl) ?_
  refine x_callSv (As := [.int k]) (rest := []) cx.fix hX hw (x_X7_requirePower l hl0 G L f _ k) (w_cS 1 hts u_130 u_131 u_132 u_133 rfl rfl (by decide) (by decide)) hl.1 rfl (lv_room (Nat.le_of_ble_eq_true rfl)) dX7_at_5 (by decide) (fun E ce q9 u H locs hpe hw hce hcv hcl => ?_) (fun u H locs hp hw => ?_)
  · obtain ⟨hE, hno, e10⟩ := hpe
    rw [e10] at hw
    exact x_out hnt hlocks hw (⟨hE, by rw [hno, Bool.and_false], ho0⟩) hce hcv hcl (by decide) (by decide)
  obtain ⟨hink2, e10⟩ := hp
  rw [e10] at hw
  obtain ⟨k2, hk2, ejk2⟩ := inB_of (by decide) hink2
  subst ejk2
  refine lv_aload_n hx hb dX7_at_8 rfl (lv_at hl 0 rfl) ?_
  refine w_get (C := RX7) (T := TX7) (N := 15) (ci := 7) (ref := "LiftFactors") (v := .ref co) hx hb hts inX7_u hown hw hxL hxo rfl 0 (by decide) u_0 rfl hfs0 dX7_at_9 ?_
  refine lv_iload_n hx hb dX7_at_12 rfl (lv_at hl 1 rfl) ?_
  refine n_aald hx hb hw hcoL (Or.inl hco) j (by omega) (by omega) (hcr _ (by omega)) dX7_at_13 ?_
  refine lv_iload_n hx hb dX7_at_14 rfl (lv_at hl 2 rfl) ?_
  refine n_iald hx hb hw (hcrL _ hj) (hcv _ hj) k2 (by omega) (by omega) dX7_at_15 ?_
  refine vx_ret ?_
  refine W.widen (k := 2) (n := 12) (by decide) (by decide) ?_
  exact w_iret (lf := fun g => (L, g)) hx hb hr hlocks f hw (⟨⟨by rw [hinj, hink2]; rfl, rfl⟩, ho0⟩) dX7_at_16
set_option maxRecDepth 100000 in
set_option maxHeartbeats 4000000 in
theorem z_X7_set (l : Launch) (hl0 : l.stackTraces = false) (G : gG) (L : List Nat) (f : Nat → va_E) (sz : Nat) (x : Nat) (own : Nat → Prop) (hz : cZ G L f x own) (v k z : Int32) :
    vx_Met l yX7_set (uW yX7_set cX7_set 5 (some .boolean)) { frames := 8, cells := 3, slots := 18, locals := 115 } (wInX G [.ref x, .int v, .int k, .int z] L f sz) (va_Qi (fun (r9 : Int32) (g : Nat → va_E) => ((inB v 80 && inB k 11 && okV z) = true ∧ r9 = if z = nI 0 then nI 0 else nI 1) ∧ cO own f g) (fun g => wAt G (wA L f sz) L g) (wA L f sz)) (xX G (wA L f sz) L (fun E g => (E = nAI ∧ (inB v 80 && inB k 11) = false ∨ E = nIA ∧ (inB v 80 && inB k 11) = true ∧ okV z = false) ∧ cO own f g)) 3 18 (wA L f sz) := by
  refine wEnterX (by decide) (Nat.le_of_ble_eq_true rfl) ?_
  intro p e s m below meth c ls cx hnt hl hsz hw hX
  obtain ⟨hx, hb, hr, hml, hown, hts, hlocks⟩ := id cx
  have hown : s.vm.findClass RX7 = some m.cls := hown
  have hl : lv_has ls 5 [(0, .ref x), (1, .int v), (2, .int k), (3, .int z)] := hl
  generalize wA L f sz = A at hw hX ⊢
  obtain ⟨fs, fs6, fs3, co, b1, b2, b3, b4, o3, o6, cr0, cr, r1, r2, r3, r4, hxL, hxo, hfl, hfs0, hfs1, hfs4, hfs5, hfs6, hfs7, hfs8, hfs11, hfs14, hcoL, hco, hcr, hcrL, hcv, h1L, hb1, h2L, hb2, h3L, hb3, h4L, hb4, n12, n13, n23, ho3L, ho3, ho6L, ho6, hfl6, ow_x, ow_b1, ow_b2, ow_b3, ow_b4, ow_o6, ow_cr⟩ := hz
  have n_x_b1 : x ≠ b1 := ne_E hb1 hxo (by simp)
  have n_x_b2 : x ≠ b2 := ne_E hb2 hxo (by simp)
  have n_x_b3 : x ≠ b3 := ne_E hb3 hxo (by simp)
  have n_x_b4 : x ≠ b4 := ne_E hb4 hxo (by simp)
  have n_x_co : x ≠ co := ne_E hco hxo (by simp)
  have n_x_o3 : x ≠ o3 := ne_E ho3 hxo (by simp)
  have n_x_o6 : x ≠ o6 := ne_E ho6 hxo (by simp)
  have n_b1_x : b1 ≠ x := ne_E hxo hb1 (by simp)
  have n_b1_b2 : b1 ≠ b2 := n12
  have n_b1_b3 : b1 ≠ b3 := n13
  have n_b1_b4 : b1 ≠ b4 := ne_E hb4 hb1 (by simp)
  have n_b1_co : b1 ≠ co := ne_E hco hb1 (by simp)
  have n_b1_o3 : b1 ≠ o3 := ne_E ho3 hb1 (by simp)
  have n_b1_o6 : b1 ≠ o6 := ne_E ho6 hb1 (by simp)
  have n_b2_x : b2 ≠ x := ne_E hxo hb2 (by simp)
  have n_b2_b1 : b2 ≠ b1 := (n12).symm
  have n_b2_b3 : b2 ≠ b3 := n23
  have n_b2_b4 : b2 ≠ b4 := ne_E hb4 hb2 (by simp)
  have n_b2_co : b2 ≠ co := ne_E hco hb2 (by simp)
  have n_b2_o3 : b2 ≠ o3 := ne_E ho3 hb2 (by simp)
  have n_b2_o6 : b2 ≠ o6 := ne_E ho6 hb2 (by simp)
  have n_b3_x : b3 ≠ x := ne_E hxo hb3 (by simp)
  have n_b3_b1 : b3 ≠ b1 := (n13).symm
  have n_b3_b2 : b3 ≠ b2 := (n23).symm
  have n_b3_b4 : b3 ≠ b4 := ne_E hb4 hb3 (by simp)
  have n_b3_co : b3 ≠ co := ne_E hco hb3 (by simp)
  have n_b3_o3 : b3 ≠ o3 := ne_E ho3 hb3 (by simp)
  have n_b3_o6 : b3 ≠ o6 := ne_E ho6 hb3 (by simp)
  have n_b4_x : b4 ≠ x := ne_E hxo hb4 (by simp)
  have n_b4_b1 : b4 ≠ b1 := ne_E hb1 hb4 (by simp)
  have n_b4_b2 : b4 ≠ b2 := ne_E hb2 hb4 (by simp)
  have n_b4_b3 : b4 ≠ b3 := ne_E hb3 hb4 (by simp)
  have n_b4_co : b4 ≠ co := ne_E hco hb4 (by simp)
  have n_b4_o3 : b4 ≠ o3 := ne_E ho3 hb4 (by simp)
  have n_b4_o6 : b4 ≠ o6 := ne_E ho6 hb4 (by simp)
  have n_co_x : co ≠ x := ne_E hxo hco (by simp)
  have n_co_b1 : co ≠ b1 := ne_E hb1 hco (by simp)
  have n_co_b2 : co ≠ b2 := ne_E hb2 hco (by simp)
  have n_co_b3 : co ≠ b3 := ne_E hb3 hco (by simp)
  have n_co_b4 : co ≠ b4 := ne_E hb4 hco (by simp)
  have n_co_o3 : co ≠ o3 := ne_E ho3 hco (by simp)
  have n_co_o6 : co ≠ o6 := ne_E ho6 hco (by simp)
  have n_o3_x : o3 ≠ x := ne_E hxo ho3 (by simp)
  have n_o3_b1 : o3 ≠ b1 := ne_E hb1 ho3 (by simp)
  have n_o3_b2 : o3 ≠ b2 := ne_E hb2 ho3 (by simp)
  have n_o3_b3 : o3 ≠ b3 := ne_E hb3 ho3 (by simp)
  have n_o3_b4 : o3 ≠ b4 := ne_E hb4 ho3 (by simp)
  have n_o3_co : o3 ≠ co := ne_E hco ho3 (by simp)
  have n_o3_o6 : o3 ≠ o6 := ne_E ho6 ho3 (by simp)
  have n_o6_x : o6 ≠ x := ne_E hxo ho6 (by simp)
  have n_o6_b1 : o6 ≠ b1 := ne_E hb1 ho6 (by simp)
  have n_o6_b2 : o6 ≠ b2 := ne_E hb2 ho6 (by simp)
  have n_o6_b3 : o6 ≠ b3 := ne_E hb3 ho6 (by simp)
  have n_o6_b4 : o6 ≠ b4 := ne_E hb4 ho6 (by simp)
  have n_o6_co : o6 ≠ co := ne_E hco ho6 (by simp)
  have n_o6_o3 : o6 ≠ o3 := ne_E ho3 ho6 (by simp)
  have ho0 : ∀ q : Nat, ¬ own q → f q = f q := fun q _ => rfl
  have hncr_x : ∀ j, j < 80 → cr j ≠ x := fun j hj => ne_E hxo (hcv j hj) (by simp)
  have hncr_b1 : ∀ j, j < 80 → cr j ≠ b1 := fun j hj => ne_E hb1 (hcv j hj) (by simp)
  have hncr_b2 : ∀ j, j < 80 → cr j ≠ b2 := fun j hj => ne_E hb2 (hcv j hj) (by simp)
  have hncr_b3 : ∀ j, j < 80 → cr j ≠ b3 := fun j hj => ne_E hb3 (hcv j hj) (by simp)
  have hncr_b4 : ∀ j, j < 80 → cr j ≠ b4 := fun j hj => ne_E hb4 (hcv j hj) (by simp)
  have hncr_o6 : ∀ j, j < 80 → cr j ≠ o6 := fun j hj => ne_E ho6 (hcv j hj) (by simp)
  refine lv_iload_n hx hb dX7_set_0 rfl (lv_at hl 1 rfl) ?_
  refine x_callSv (As := [.int v]) (rest := []) cx.fix hX hw (x_X7_requirePolynomial l hl0 G L f _ v) (w_cS 1 hts u_98 u_99 u_100 u_101 rfl rfl (by decide) (by decide)) hl.1 rfl (lv_room (Nat.le_of_ble_eq_true rfl)) dX7_set_1 (by decide) (fun E ce q9 u H locs hpe hw hce hcv hcl => ?_) (fun u H locs hp hw => ?_)
  · obtain ⟨hE, hno, e10⟩ := hpe
    rw [e10] at hw
    exact x_out hnt hlocks hw (⟨Or.inl ⟨hE, by rw [hno]; rfl⟩, ho0⟩) hce hcv hcl (by decide) (by decide)
  obtain ⟨hinj, e10⟩ := hp
  rw [e10] at hw
  obtain ⟨j, hj, ejj⟩ := inB_of (by decide) hinj
  subst ejj
  refine lv_iload_n hx hb dX7_set_4 rfl (lv_at hl 2 rfl) ?_
  refine x_callSv (As := [.int k]) (rest := []) cx.fix hX hw (x_X7_requirePower l hl0 G L f _ k) (w_cS 1 hts u_130 u_131 u_132 u_133 rfl rfl (by decide) (by decide)) hl.1 rfl (lv_room (Nat.le_of_ble_eq_true rfl)) dX7_set_5 (by decide) (fun E ce q9 u H locs hpe hw hce hcv hcl => ?_) (fun u H locs hp hw => ?_)
  · obtain ⟨hE, hno, e10⟩ := hpe
    rw [e10] at hw
    exact x_out hnt hlocks hw (⟨Or.inl ⟨hE, by rw [hno, Bool.and_false]⟩, ho0⟩) hce hcv hcl (by decide) (by decide)
  obtain ⟨hink2, e10⟩ := hp
  rw [e10] at hw
  obtain ⟨k2, hk2, ejk2⟩ := inB_of (by decide) hink2
  subst ejk2
  refine lv_iload_n hx hb dX7_set_8 rfl (lv_at hl 3 rfl) ?_
  refine lv_sipush (v := (-9999)) hx hb dX7_set_9 (by decide) ?_
  refine lv_icmp_lt (tgt := 22) hx hb dX7_set_12 (by decide) (fun hz1 => ?_) (fun hz1 => ?_)
  · skip
    exact w_throwS (text := "no such coefficient") hx hb hl0 hown hts fit_IA fitn_2 uw_classLink_RX7_109_nIA uw_initialized_nIA (by decide +kernel) at_IA an_IA ot_IA hX hw (hl.1.trans hml.symm) dX7_set_22 dX7_set_25 dX7_set_26 dX7_set_28 dX7_set_31 hnt (by decide) (by decide) (by decide) (by decide) hlocks (⟨Or.inr ⟨rfl, by rw [hinj, hink2]; rfl, by unfold okV; rw [decide_eq_true hz1]; simp⟩, ho0⟩) (by decide) (by decide)
  · skip
    refine lv_iload_n hx hb dX7_set_15 rfl (lv_at hl 3 rfl) ?_
    refine lv_sipush (v := nI 9999) hx hb dX7_set_16 (by decide) ?_
    refine lv_icmp_le (tgt := 32) hx hb dX7_set_19 (by decide) (fun hz2 => ?_) (fun hz2 => ?_)
    · skip
      have hokz : (inB (nI j) 80 && inB (nI k2) 11 && okV z) = true := by rw [hinj, hink2, show okV z = true from by unfold okV; rw [decide_eq_false hz1, decide_eq_true hz2]; rfl]; rfl
      refine lv_aload_n hx hb dX7_set_32 rfl (lv_at hl 0 rfl) ?_
      refine w_get (C := RX7) (T := TX7) (N := 15) (ci := 7) (ref := "LiftFactors") (v := .ref co) hx hb hts inX7_u hown hw hxL hxo rfl 0 (by decide) u_0 rfl hfs0 dX7_set_33 ?_
      refine lv_iload_n hx hb dX7_set_36 rfl (lv_at hl 1 rfl) ?_
      refine n_aald hx hb hw hcoL (Or.inl hco) j (by omega) (by omega) (hcr _ (by omega)) dX7_set_37 ?_
      refine lv_iload_n hx hb dX7_set_38 rfl (lv_at hl 2 rfl) ?_
      refine n_iald hx hb hw (hcrL _ hj) (hcv _ hj) k2 (by omega) (by omega) dX7_set_39 ?_
      refine w_ti (y := nI 0) rfl ?_
      refine lv_iload_n hx hb dX7_set_40 rfl (lv_at hl 3 rfl) ?_
      refine lv_icmp_eq (tgt := 48) hx hb dX7_set_41 (by decide) (fun he => ?_) (fun he => ?_)
      · skip
        refine lv_iconst (v := nI 0) hx hb dX7_set_48 (by decide) ?_
        refine lv_istore (lv' := [(4, .int (nI 0)), (0, .ref x), (1, .int (nI j)), (2, .int (nI k2)), (3, .int z)]) hx hb dX7_set_49 hl (by decide) rfl (fun ls hl => ?_)
        refine lv_aload_n hx hb dX7_set_51 rfl (lv_at hl 1 rfl) ?_
        refine w_get (C := RX7) (T := TX7) (N := 15) (ci := 7) (ref := "LiftFactors") (v := .ref co) hx hb hts inX7_u hown hw hxL hxo rfl 0 (by decide) u_0 rfl hfs0 dX7_set_52 ?_
        refine lv_iload_n hx hb dX7_set_55 rfl (lv_at hl 2 rfl) ?_
        refine n_aald hx hb hw hcoL (Or.inl hco) j (by omega) (by omega) (hcr _ (by omega)) dX7_set_56 ?_
        refine lv_iload_n hx hb dX7_set_57 rfl (lv_at hl 3 rfl) ?_
        refine lv_iload_n hx hb dX7_set_58 rfl (lv_at hl 4 rfl) ?_
        refine n_iast hx hb hw (hcrL _ hj) (hcv _ hj) k2 (by omega) (by omega) dX7_set_59 (fun H locs hw => ?_)
        refine lv_iload hx hb dX7_set_60 (lv_at hl 0 rfl) ?_
        refine vx_ret ?_
        refine W.widen (k := 3) (n := 18) (by decide) (by decide) ?_
        exact w_zret (lf := fun g => (L, g)) hx hb hr hlocks (by first | rfl | decide) _ hw (⟨⟨hokz, (if_pos he.symm).symm⟩, fun q hq => va_up_ne _ _ (fun h9 => hq (by rw [h9]; exact ow_cr _ hj))⟩) dX7_set_62
      · skip
        refine lv_iconst (v := nI 1) hx hb dX7_set_44 (by decide) ?_
        refine lv_goto (tgt := 49) hx hb dX7_set_45 (by decide) ?_
        refine lv_istore (lv' := [(4, .int (nI 1)), (0, .ref x), (1, .int (nI j)), (2, .int (nI k2)), (3, .int z)]) hx hb dX7_set_49 hl (by decide) rfl (fun ls hl => ?_)
        refine lv_aload_n hx hb dX7_set_51 rfl (lv_at hl 1 rfl) ?_
        refine w_get (C := RX7) (T := TX7) (N := 15) (ci := 7) (ref := "LiftFactors") (v := .ref co) hx hb hts inX7_u hown hw hxL hxo rfl 0 (by decide) u_0 rfl hfs0 dX7_set_52 ?_
        refine lv_iload_n hx hb dX7_set_55 rfl (lv_at hl 2 rfl) ?_
        refine n_aald hx hb hw hcoL (Or.inl hco) j (by omega) (by omega) (hcr _ (by omega)) dX7_set_56 ?_
        refine lv_iload_n hx hb dX7_set_57 rfl (lv_at hl 3 rfl) ?_
        refine lv_iload_n hx hb dX7_set_58 rfl (lv_at hl 4 rfl) ?_
        refine n_iast hx hb hw (hcrL _ hj) (hcv _ hj) k2 (by omega) (by omega) dX7_set_59 (fun H locs hw => ?_)
        refine lv_iload hx hb dX7_set_60 (lv_at hl 0 rfl) ?_
        refine vx_ret ?_
        refine W.widen (k := 3) (n := 18) (by decide) (by decide) ?_
        exact w_zret (lf := fun g => (L, g)) hx hb hr hlocks (by first | rfl | decide) _ hw (⟨⟨hokz, (if_neg (fun q => he q.symm)).symm⟩, fun q hq => va_up_ne _ _ (fun h9 => hq (by rw [h9]; exact ow_cr _ hj))⟩) dX7_set_62
    · skip
      exact w_throwS (text := "no such coefficient") hx hb hl0 hown hts fit_IA fitn_2 uw_classLink_RX7_109_nIA uw_initialized_nIA (by decide +kernel) at_IA an_IA ot_IA hX hw (hl.1.trans hml.symm) dX7_set_22 dX7_set_25 dX7_set_26 dX7_set_28 dX7_set_31 hnt (by decide) (by decide) (by decide) (by decide) hlocks (⟨Or.inr ⟨rfl, by rw [hinj, hink2]; rfl, by unfold okV; rw [decide_eq_false hz2]; simp⟩, ho0⟩) (by decide) (by decide)
set_option maxRecDepth 100000 in
set_option maxHeartbeats 4000000 in
theorem z_X7_root (l : Launch) (hl0 : l.stackTraces = false) (G : gG) (L : List Nat) (f : Nat → va_E) (sz : Nat) (x : Nat) (own : Nat → Prop) (hz : cZ G L f x own) (v k q : Int32) :
    vx_Met l yX7_root (uW yX7_root cX7_root 4 (some .int)) { frames := 8, cells := 2, slots := 12, locals := 115 } (wInX G [.ref x, .int v, .int k, .int q] L f sz) (va_Qi (fun (r9 : Int32) (g : Nat → va_E) => False) (fun g => wAt G (wA L f sz) L g) (wA L f sz)) (xX G (wA L f sz) L (fun E g => (E = nAI ∧ inB v 80 = false ∨ E = nIA ∧ inB v 80 = true) ∧ cO own f g)) 2 12 (wA L f sz) := by
  refine wEnterX (by decide) (Nat.le_of_ble_eq_true rfl) ?_
  intro p e s m below meth c ls cx hnt hl hsz hw hX
  obtain ⟨hx, hb, hr, hml, hown, hts, hlocks⟩ := id cx
  have hown : s.vm.findClass RX7 = some m.cls := hown
  have hl : lv_has ls 4 [(0, .ref x), (1, .int v), (2, .int k), (3, .int q)] := hl
  generalize wA L f sz = A at hw hX ⊢
  obtain ⟨fs, fs6, fs3, co, b1, b2, b3, b4, o3, o6, cr0, cr, r1, r2, r3, r4, hxL, hxo, hfl, hfs0, hfs1, hfs4, hfs5, hfs6, hfs7, hfs8, hfs11, hfs14, hcoL, hco, hcr, hcrL, hcv, h1L, hb1, h2L, hb2, h3L, hb3, h4L, hb4, n12, n13, n23, ho3L, ho3, ho6L, ho6, hfl6, ow_x, ow_b1, ow_b2, ow_b3, ow_b4, ow_o6, ow_cr⟩ := hz
  have n_x_b1 : x ≠ b1 := ne_E hb1 hxo (by simp)
  have n_x_b2 : x ≠ b2 := ne_E hb2 hxo (by simp)
  have n_x_b3 : x ≠ b3 := ne_E hb3 hxo (by simp)
  have n_x_b4 : x ≠ b4 := ne_E hb4 hxo (by simp)
  have n_x_co : x ≠ co := ne_E hco hxo (by simp)
  have n_x_o3 : x ≠ o3 := ne_E ho3 hxo (by simp)
  have n_x_o6 : x ≠ o6 := ne_E ho6 hxo (by simp)
  have n_b1_x : b1 ≠ x := ne_E hxo hb1 (by simp)
  have n_b1_b2 : b1 ≠ b2 := n12
  have n_b1_b3 : b1 ≠ b3 := n13
  have n_b1_b4 : b1 ≠ b4 := ne_E hb4 hb1 (by simp)
  have n_b1_co : b1 ≠ co := ne_E hco hb1 (by simp)
  have n_b1_o3 : b1 ≠ o3 := ne_E ho3 hb1 (by simp)
  have n_b1_o6 : b1 ≠ o6 := ne_E ho6 hb1 (by simp)
  have n_b2_x : b2 ≠ x := ne_E hxo hb2 (by simp)
  have n_b2_b1 : b2 ≠ b1 := (n12).symm
  have n_b2_b3 : b2 ≠ b3 := n23
  have n_b2_b4 : b2 ≠ b4 := ne_E hb4 hb2 (by simp)
  have n_b2_co : b2 ≠ co := ne_E hco hb2 (by simp)
  have n_b2_o3 : b2 ≠ o3 := ne_E ho3 hb2 (by simp)
  have n_b2_o6 : b2 ≠ o6 := ne_E ho6 hb2 (by simp)
  have n_b3_x : b3 ≠ x := ne_E hxo hb3 (by simp)
  have n_b3_b1 : b3 ≠ b1 := (n13).symm
  have n_b3_b2 : b3 ≠ b2 := (n23).symm
  have n_b3_b4 : b3 ≠ b4 := ne_E hb4 hb3 (by simp)
  have n_b3_co : b3 ≠ co := ne_E hco hb3 (by simp)
  have n_b3_o3 : b3 ≠ o3 := ne_E ho3 hb3 (by simp)
  have n_b3_o6 : b3 ≠ o6 := ne_E ho6 hb3 (by simp)
  have n_b4_x : b4 ≠ x := ne_E hxo hb4 (by simp)
  have n_b4_b1 : b4 ≠ b1 := ne_E hb1 hb4 (by simp)
  have n_b4_b2 : b4 ≠ b2 := ne_E hb2 hb4 (by simp)
  have n_b4_b3 : b4 ≠ b3 := ne_E hb3 hb4 (by simp)
  have n_b4_co : b4 ≠ co := ne_E hco hb4 (by simp)
  have n_b4_o3 : b4 ≠ o3 := ne_E ho3 hb4 (by simp)
  have n_b4_o6 : b4 ≠ o6 := ne_E ho6 hb4 (by simp)
  have n_co_x : co ≠ x := ne_E hxo hco (by simp)
  have n_co_b1 : co ≠ b1 := ne_E hb1 hco (by simp)
  have n_co_b2 : co ≠ b2 := ne_E hb2 hco (by simp)
  have n_co_b3 : co ≠ b3 := ne_E hb3 hco (by simp)
  have n_co_b4 : co ≠ b4 := ne_E hb4 hco (by simp)
  have n_co_o3 : co ≠ o3 := ne_E ho3 hco (by simp)
  have n_co_o6 : co ≠ o6 := ne_E ho6 hco (by simp)
  have n_o3_x : o3 ≠ x := ne_E hxo ho3 (by simp)
  have n_o3_b1 : o3 ≠ b1 := ne_E hb1 ho3 (by simp)
  have n_o3_b2 : o3 ≠ b2 := ne_E hb2 ho3 (by simp)
  have n_o3_b3 : o3 ≠ b3 := ne_E hb3 ho3 (by simp)
  have n_o3_b4 : o3 ≠ b4 := ne_E hb4 ho3 (by simp)
  have n_o3_co : o3 ≠ co := ne_E hco ho3 (by simp)
  have n_o3_o6 : o3 ≠ o6 := ne_E ho6 ho3 (by simp)
  have n_o6_x : o6 ≠ x := ne_E hxo ho6 (by simp)
  have n_o6_b1 : o6 ≠ b1 := ne_E hb1 ho6 (by simp)
  have n_o6_b2 : o6 ≠ b2 := ne_E hb2 ho6 (by simp)
  have n_o6_b3 : o6 ≠ b3 := ne_E hb3 ho6 (by simp)
  have n_o6_b4 : o6 ≠ b4 := ne_E hb4 ho6 (by simp)
  have n_o6_co : o6 ≠ co := ne_E hco ho6 (by simp)
  have n_o6_o3 : o6 ≠ o3 := ne_E ho3 ho6 (by simp)
  have ho0 : ∀ q : Nat, ¬ own q → f q = f q := fun q _ => rfl
  have hncr_x : ∀ j, j < 80 → cr j ≠ x := fun j hj => ne_E hxo (hcv j hj) (by simp)
  have hncr_b1 : ∀ j, j < 80 → cr j ≠ b1 := fun j hj => ne_E hb1 (hcv j hj) (by simp)
  have hncr_b2 : ∀ j, j < 80 → cr j ≠ b2 := fun j hj => ne_E hb2 (hcv j hj) (by simp)
  have hncr_b3 : ∀ j, j < 80 → cr j ≠ b3 := fun j hj => ne_E hb3 (hcv j hj) (by simp)
  have hncr_b4 : ∀ j, j < 80 → cr j ≠ b4 := fun j hj => ne_E hb4 (hcv j hj) (by simp)
  have hncr_o6 : ∀ j, j < 80 → cr j ≠ o6 := fun j hj => ne_E ho6 (hcv j hj) (by simp)
  refine lv_iload_n hx hb dX7_root_0 rfl (lv_at hl 1 rfl) ?_
  refine x_callSv (As := [.int v]) (rest := []) cx.fix hX hw (x_X7_requirePolynomial l hl0 G L f _ v) (w_cS 1 hts u_98 u_99 u_100 u_101 rfl rfl (by decide) (by decide)) hl.1 rfl (lv_room (Nat.le_of_ble_eq_true rfl)) dX7_root_1 (by decide) (fun E ce q9 u H locs hpe hw hce hcv hcl => ?_) (fun u H locs hp hw => ?_)
  · obtain ⟨hE, hno, e10⟩ := hpe
    rw [e10] at hw
    exact x_out hnt hlocks hw (⟨Or.inl ⟨hE, hno⟩, ho0⟩) hce hcv hcl (by decide) (by decide)
  obtain ⟨hinj, e10⟩ := hp
  rw [e10] at hw
  obtain ⟨j, hj, ejj⟩ := inB_of (by decide) hinj
  subst ejj
  refine lv_aload_n hx hb dX7_root_4 rfl (lv_at hl 0 rfl) ?_
  refine lv_iload_n hx hb dX7_root_5 rfl (lv_at hl 1 rfl) ?_
  refine lv_aload_n hx hb dX7_root_6 rfl (lv_at hl 0 rfl) ?_
  refine w_get (C := RX7) (T := TX7) (N := 15) (ci := 7) (ref := "LiftFactors") (v := .ref b1) hx hb hts inX7_u hown hw hxL hxo rfl 5 (by decide) u_102 rfl hfs5 dX7_root_7 ?_
  refine w_callVv (lf := fun g => (L, g)) (As := [.int (nI j), .ref b1]) (rest := []) cx.fix hw (c_X7_load l G L f _ x b1 co j fs cr0 cr (fun _ _ => 0 : Nat → Nat → Int32) r1 hxL hxo hfs0 hco hcoL hcr hcrL hcv h1L hb1 hj) hxL hxo rfl rfl (w_cV 2 hts u_103 u_104 u_105 u_106 u_107 rfl rfl (by decide) (by decide)) hl.1 rfl (lv_room (Nat.le_of_ble_eq_true rfl)) dX7_root_10 (by decide) (fun u H locs hp hw => ?_)
  have hw : wH G A s.heap s L u H locs := hw
  rw [hp] at hw
  obtain ⟨f1, hf1⟩ : ∃ g, g = va_up f b1 (eJ G 11 (prL (fun k => ((fun _ _ => 0 : Nat → Nat → Int32) j k).toInt64) r1 11)) := ⟨_, rfl⟩
  rw [← hf1] at hw
  have h1_x : f1 x = eO 7 fs := by rw [hf1, va_up_ne _ _ n_x_b1]; exact hxo
  have h1_b1 : f1 b1 = eJ G 11 (prL (fun k => ((fun _ _ => 0 : Nat → Nat → Int32) j k).toInt64) r1 11) := by rw [hf1]; exact va_up_eq _ _ _
  have h1_b2 : f1 b2 = eJ G 11 r2 := by rw [hf1, va_up_ne _ _ n_b2_b1]; exact hb2
  have h1_b3 : f1 b3 = eJ G 11 r3 := by rw [hf1, va_up_ne _ _ n_b3_b1]; exact hb3
  have h1_b4 : f1 b4 = eJ G 21 r4 := by rw [hf1, va_up_ne _ _ n_b4_b1]; exact hb4
  have h1_co : f1 co = eII G 80 cr0 := by rw [hf1, va_up_ne _ _ n_co_b1]; exact hco
  have h1_o3 : f1 o3 = eO 1 fs3 := by rw [hf1, va_up_ne _ _ n_o3_b1]; exact ho3
  have h1_o6 : f1 o6 = eO 5 fs6 := by rw [hf1, va_up_ne _ _ n_o6_b1]; exact ho6
  have hcv1 : ∀ j, j < 80 → f1 (cr j) = eI G 11 (fun _ => 0) := fun j hj => by rw [hf1, va_up_ne _ _ (hncr_b1 j hj)]; exact hcv j hj
  have ho1 : ∀ q : Nat, ¬ own q → f1 q = f q := fun q hq => (show f1 q = f q from by rw [hf1]; exact va_up_ne _ _ (fun h9 => hq (by rw [h9]; exact ow_b1))).trans (ho0 q hq)
  refine lv_aload_n hx hb dX7_root_13 rfl (lv_at hl 0 rfl) ?_
  refine w_get (C := RX7) (T := TX7) (N := 15) (ci := 7) (ref := "LiftFactors") (v := .ref b1) hx hb hts inX7_u hown hw hxL h1_x rfl 5 (by decide) u_102 rfl hfs5 dX7_root_14 ?_
  refine w_callSv (lf := fun g => (L, g)) (As := [.ref b1]) (rest := []) cx.fix hw (c_X5_makePrimitive0 l G L f1 _ b1 11 (prL (fun k => ((fun _ _ => 0 : Nat → Nat → Int32) j k).toInt64) r1 11) h1L h1_b1 (by decide) (z_load r1 j)) (w_cS 1 hts u_134 u_21 u_22 u_23 rfl rfl (by decide) (by decide)) hl.1 rfl (lv_room (Nat.le_of_ble_eq_true rfl)) dX7_root_17 (by decide) (fun u H locs hp hw => ?_)
  have hw : wH G A s.heap s L u H locs := hw
  rw [hp] at hw
  refine lv_aload_n hx hb dX7_root_20 rfl (lv_at hl 0 rfl) ?_
  refine w_get (C := RX7) (T := TX7) (N := 15) (ci := 7) (ref := "LiftFactors") (v := .ref o6) hx hb hts inX7_u hown hw hxL h1_x rfl 14 (by decide) u_135 rfl hfs14 dX7_root_21 ?_
  refine lv_aload_n hx hb dX7_root_24 rfl (lv_at hl 0 rfl) ?_
  refine w_get (C := RX7) (T := TX7) (N := 15) (ci := 7) (ref := "LiftFactors") (v := .ref b1) hx hb hts inX7_u hown hw hxL h1_x rfl 5 (by decide) u_102 rfl hfs5 dX7_root_25 ?_
  refine w_callVv (lf := fun g => (L, g)) (As := [.ref b1]) (rest := []) cx.fix hw (c_X4_findRoots0 l G L f1 _ o6 b1 fs6 (prL (fun k => ((fun _ _ => 0 : Nat → Nat → Int32) j k).toInt64) r1 11) ho6L h1_o6 hfl6 h1L h1_b1 (z_load r1 j)) ho6L h1_o6 rfl rfl (w_cV 1 hts u_136 u_137 u_138 u_139 u_140 rfl rfl (by decide) (by decide)) hl.1 rfl (lv_room (Nat.le_of_ble_eq_true rfl)) dX7_root_28 (by decide) (fun u H locs hp hw => ?_)
  have hw : wH G A s.heap s L u H locs := hw
  rw [hp] at hw
  obtain ⟨fs2, hz2⟩ : ∃ zz9, zz9 = fs6.set 2 (.int (nI 0)) := ⟨_, rfl⟩
  rw [← hz2] at hw
  have hlen2 : fs2.length = 5 := by rw [hz2, List.length_set]; exact hfl6
  have g2_2 : fs2[2]? = some (.int (nI 0)) := by rw [hz2, List.getElem?_set_self (by omega)]
  obtain ⟨f3, hf3⟩ : ∃ g, g = va_up f1 o6 (eO 5 fs2) := ⟨_, rfl⟩
  rw [← hf3] at hw
  have h3_x : f3 x = eO 7 fs := by rw [hf3, va_up_ne _ _ n_x_o6]; exact h1_x
  have h3_b1 : f3 b1 = eJ G 11 (prL (fun k => ((fun _ _ => 0 : Nat → Nat → Int32) j k).toInt64) r1 11) := by rw [hf3, va_up_ne _ _ n_b1_o6]; exact h1_b1
  have h3_b2 : f3 b2 = eJ G 11 r2 := by rw [hf3, va_up_ne _ _ n_b2_o6]; exact h1_b2
  have h3_b3 : f3 b3 = eJ G 11 r3 := by rw [hf3, va_up_ne _ _ n_b3_o6]; exact h1_b3
  have h3_b4 : f3 b4 = eJ G 21 r4 := by rw [hf3, va_up_ne _ _ n_b4_o6]; exact h1_b4
  have h3_co : f3 co = eII G 80 cr0 := by rw [hf3, va_up_ne _ _ n_co_o6]; exact h1_co
  have h3_o3 : f3 o3 = eO 1 fs3 := by rw [hf3, va_up_ne _ _ n_o3_o6]; exact h1_o3
  have h3_o6 : f3 o6 = eO 5 fs2 := by rw [hf3]; exact va_up_eq _ _ _
  have hcv3 : ∀ j, j < 80 → f3 (cr j) = eI G 11 (fun _ => 0) := fun j hj => by rw [hf3, va_up_ne _ _ (hncr_o6 j hj)]; exact hcv1 j hj
  have ho3 : ∀ q : Nat, ¬ own q → f3 q = f q := fun q hq => (show f3 q = f1 q from by rw [hf3]; exact va_up_ne _ _ (fun h9 => hq (by rw [h9]; exact ow_o6))).trans (ho1 q hq)
  refine lv_iload_n hx hb dX7_root_31 rfl (lv_at hl 2 rfl) ?_
  refine lv_if_lt (tgt := 46) hx hb dX7_root_32 (by decide) (fun hk => ?_) (fun hk => ?_)
  · skip
    exact w_throwS (text := "no such root") hx hb hl0 hown hts fit_IA fitn_2 uw_classLink_RX7_109_nIA uw_initialized_nIA (by decide +kernel) at_IA an_IA ot_IA hX hw (hl.1.trans hml.symm) dX7_root_46 dX7_root_49 dX7_root_50 dX7_root_52 dX7_root_55 hnt (by decide) (by decide) (by decide) (by decide) hlocks (⟨Or.inr ⟨rfl, hinj⟩, ho3⟩) (by decide) (by decide)
  · skip
    refine lv_iload_n hx hb dX7_root_35 rfl (lv_at hl 2 rfl) ?_
    refine lv_aload_n hx hb dX7_root_36 rfl (lv_at hl 0 rfl) ?_
    refine w_get (C := RX7) (T := TX7) (N := 15) (ci := 7) (ref := "LiftFactors") (v := .ref o6) hx hb hts inX7_u hown hw hxL h3_x rfl 14 (by decide) u_135 rfl hfs14 dX7_root_37 ?_
    refine w_get (C := RX4) (T := TX4) (N := 5) (ci := 5) (ref := "LiftFactors$RootFinder") (v := .int (nI 0)) hx hb hts inX4_u hown hw ho6L h3_o6 rfl 2 (by decide) u_141 rfl g2_2 dX7_root_40 ?_
    refine lv_icmp_lt (tgt := 56) hx hb dX7_root_43 (by decide) (fun hk2 => ?_) (fun hk2 => ?_)
    · skip
      exact absurd hk2 (by rw [nI_0]; exact hk)
    · skip
      exact w_throwS (text := "no such root") hx hb hl0 hown hts fit_IA fitn_2 uw_classLink_RX7_109_nIA uw_initialized_nIA (by decide +kernel) at_IA an_IA ot_IA hX hw (hl.1.trans hml.symm) dX7_root_46 dX7_root_49 dX7_root_50 dX7_root_52 dX7_root_55 hnt (by decide) (by decide) (by decide) (by decide) hlocks (⟨Or.inr ⟨rfl, hinj⟩, ho3⟩) (by decide) (by decide)
set_option maxRecDepth 100000 in
set_option maxHeartbeats 4000000 in
theorem z_X7_over (l : Launch) (hl0 : l.stackTraces = false) (G : gG) (L : List Nat) (f : Nat → va_E) (sz : Nat) (x : Nat) (own : Nat → Prop) (hz : cZ G L f x own) (v k : Int32) :
    vx_Met l yX7_over (uW yX7_over cX7_over 3 (some .int)) { frames := 8, cells := 3, slots := 18, locals := 115 } (wInX G [.ref x, .int v, .int k] L f sz) (va_Qi (fun (r9 : Int32) (g : Nat → va_E) => False) (fun g => wAt G (wA L f sz) L g) (wA L f sz)) (xX G (wA L f sz) L (fun E g => (E = nAI ∧ (inB v 80 && inB k 80) = false ∨ E = nAR ∧ (inB v 80 && inB k 80) = true) ∧ cO own f g)) 3 18 (wA L f sz) := by
  refine wEnterX (by decide) (Nat.le_of_ble_eq_true rfl) ?_
  intro p e s m below meth c ls cx hnt hl hsz hw hX
  obtain ⟨hx, hb, hr, hml, hown, hts, hlocks⟩ := id cx
  have hown : s.vm.findClass RX7 = some m.cls := hown
  have hl : lv_has ls 3 [(0, .ref x), (1, .int v), (2, .int k)] := hl
  generalize wA L f sz = A at hw hX ⊢
  obtain ⟨fs, fs6, fs3, co, b1, b2, b3, b4, o3, o6, cr0, cr, r1, r2, r3, r4, hxL, hxo, hfl, hfs0, hfs1, hfs4, hfs5, hfs6, hfs7, hfs8, hfs11, hfs14, hcoL, hco, hcr, hcrL, hcv, h1L, hb1, h2L, hb2, h3L, hb3, h4L, hb4, n12, n13, n23, ho3L, ho3, ho6L, ho6, hfl6, ow_x, ow_b1, ow_b2, ow_b3, ow_b4, ow_o6, ow_cr⟩ := hz
  have n_x_b1 : x ≠ b1 := ne_E hb1 hxo (by simp)
  have n_x_b2 : x ≠ b2 := ne_E hb2 hxo (by simp)
  have n_x_b3 : x ≠ b3 := ne_E hb3 hxo (by simp)
  have n_x_b4 : x ≠ b4 := ne_E hb4 hxo (by simp)
  have n_x_co : x ≠ co := ne_E hco hxo (by simp)
  have n_x_o3 : x ≠ o3 := ne_E ho3 hxo (by simp)
  have n_x_o6 : x ≠ o6 := ne_E ho6 hxo (by simp)
  have n_b1_x : b1 ≠ x := ne_E hxo hb1 (by simp)
  have n_b1_b2 : b1 ≠ b2 := n12
  have n_b1_b3 : b1 ≠ b3 := n13
  have n_b1_b4 : b1 ≠ b4 := ne_E hb4 hb1 (by simp)
  have n_b1_co : b1 ≠ co := ne_E hco hb1 (by simp)
  have n_b1_o3 : b1 ≠ o3 := ne_E ho3 hb1 (by simp)
  have n_b1_o6 : b1 ≠ o6 := ne_E ho6 hb1 (by simp)
  have n_b2_x : b2 ≠ x := ne_E hxo hb2 (by simp)
  have n_b2_b1 : b2 ≠ b1 := (n12).symm
  have n_b2_b3 : b2 ≠ b3 := n23
  have n_b2_b4 : b2 ≠ b4 := ne_E hb4 hb2 (by simp)
  have n_b2_co : b2 ≠ co := ne_E hco hb2 (by simp)
  have n_b2_o3 : b2 ≠ o3 := ne_E ho3 hb2 (by simp)
  have n_b2_o6 : b2 ≠ o6 := ne_E ho6 hb2 (by simp)
  have n_b3_x : b3 ≠ x := ne_E hxo hb3 (by simp)
  have n_b3_b1 : b3 ≠ b1 := (n13).symm
  have n_b3_b2 : b3 ≠ b2 := (n23).symm
  have n_b3_b4 : b3 ≠ b4 := ne_E hb4 hb3 (by simp)
  have n_b3_co : b3 ≠ co := ne_E hco hb3 (by simp)
  have n_b3_o3 : b3 ≠ o3 := ne_E ho3 hb3 (by simp)
  have n_b3_o6 : b3 ≠ o6 := ne_E ho6 hb3 (by simp)
  have n_b4_x : b4 ≠ x := ne_E hxo hb4 (by simp)
  have n_b4_b1 : b4 ≠ b1 := ne_E hb1 hb4 (by simp)
  have n_b4_b2 : b4 ≠ b2 := ne_E hb2 hb4 (by simp)
  have n_b4_b3 : b4 ≠ b3 := ne_E hb3 hb4 (by simp)
  have n_b4_co : b4 ≠ co := ne_E hco hb4 (by simp)
  have n_b4_o3 : b4 ≠ o3 := ne_E ho3 hb4 (by simp)
  have n_b4_o6 : b4 ≠ o6 := ne_E ho6 hb4 (by simp)
  have n_co_x : co ≠ x := ne_E hxo hco (by simp)
  have n_co_b1 : co ≠ b1 := ne_E hb1 hco (by simp)
  have n_co_b2 : co ≠ b2 := ne_E hb2 hco (by simp)
  have n_co_b3 : co ≠ b3 := ne_E hb3 hco (by simp)
  have n_co_b4 : co ≠ b4 := ne_E hb4 hco (by simp)
  have n_co_o3 : co ≠ o3 := ne_E ho3 hco (by simp)
  have n_co_o6 : co ≠ o6 := ne_E ho6 hco (by simp)
  have n_o3_x : o3 ≠ x := ne_E hxo ho3 (by simp)
  have n_o3_b1 : o3 ≠ b1 := ne_E hb1 ho3 (by simp)
  have n_o3_b2 : o3 ≠ b2 := ne_E hb2 ho3 (by simp)
  have n_o3_b3 : o3 ≠ b3 := ne_E hb3 ho3 (by simp)
  have n_o3_b4 : o3 ≠ b4 := ne_E hb4 ho3 (by simp)
  have n_o3_co : o3 ≠ co := ne_E hco ho3 (by simp)
  have n_o3_o6 : o3 ≠ o6 := ne_E ho6 ho3 (by simp)
  have n_o6_x : o6 ≠ x := ne_E hxo ho6 (by simp)
  have n_o6_b1 : o6 ≠ b1 := ne_E hb1 ho6 (by simp)
  have n_o6_b2 : o6 ≠ b2 := ne_E hb2 ho6 (by simp)
  have n_o6_b3 : o6 ≠ b3 := ne_E hb3 ho6 (by simp)
  have n_o6_b4 : o6 ≠ b4 := ne_E hb4 ho6 (by simp)
  have n_o6_co : o6 ≠ co := ne_E hco ho6 (by simp)
  have n_o6_o3 : o6 ≠ o3 := ne_E ho3 ho6 (by simp)
  have ho0 : ∀ q : Nat, ¬ own q → f q = f q := fun q _ => rfl
  have hncr_x : ∀ j, j < 80 → cr j ≠ x := fun j hj => ne_E hxo (hcv j hj) (by simp)
  have hncr_b1 : ∀ j, j < 80 → cr j ≠ b1 := fun j hj => ne_E hb1 (hcv j hj) (by simp)
  have hncr_b2 : ∀ j, j < 80 → cr j ≠ b2 := fun j hj => ne_E hb2 (hcv j hj) (by simp)
  have hncr_b3 : ∀ j, j < 80 → cr j ≠ b3 := fun j hj => ne_E hb3 (hcv j hj) (by simp)
  have hncr_b4 : ∀ j, j < 80 → cr j ≠ b4 := fun j hj => ne_E hb4 (hcv j hj) (by simp)
  have hncr_o6 : ∀ j, j < 80 → cr j ≠ o6 := fun j hj => ne_E ho6 (hcv j hj) (by simp)
  refine lv_iload_n hx hb dX7_over_0 rfl (lv_at hl 1 rfl) ?_
  refine x_callSv (As := [.int v]) (rest := []) cx.fix hX hw (x_X7_requirePolynomial l hl0 G L f _ v) (w_cS 1 hts u_98 u_99 u_100 u_101 rfl rfl (by decide) (by decide)) hl.1 rfl (lv_room (Nat.le_of_ble_eq_true rfl)) dX7_over_1 (by decide) (fun E ce q9 u H locs hpe hw hce hcv hcl => ?_) (fun u H locs hp hw => ?_)
  · obtain ⟨hE, hno, e10⟩ := hpe
    rw [e10] at hw
    exact x_out hnt hlocks hw (⟨Or.inl ⟨hE, by rw [hno]; rfl⟩, ho0⟩) hce hcv hcl (by decide) (by decide)
  obtain ⟨hinj, e10⟩ := hp
  rw [e10] at hw
  obtain ⟨j, hj, ejj⟩ := inB_of (by decide) hinj
  subst ejj
  refine lv_iload_n hx hb dX7_over_4 rfl (lv_at hl 2 rfl) ?_
  refine x_callSv (As := [.int k]) (rest := []) cx.fix hX hw (x_X7_requirePolynomial l hl0 G L f _ k) (w_cS 1 hts u_98 u_99 u_100 u_101 rfl rfl (by decide) (by decide)) hl.1 rfl (lv_room (Nat.le_of_ble_eq_true rfl)) dX7_over_5 (by decide) (fun E ce q9 u H locs hpe hw hce hcv hcl => ?_) (fun u H locs hp hw => ?_)
  · obtain ⟨hE, hno, e10⟩ := hpe
    rw [e10] at hw
    exact x_out hnt hlocks hw (⟨Or.inl ⟨hE, by rw [hno, Bool.and_false]⟩, ho0⟩) hce hcv hcl (by decide) (by decide)
  obtain ⟨hink2, e10⟩ := hp
  rw [e10] at hw
  obtain ⟨k2, hk2, ejk2⟩ := inB_of (by decide) hink2
  subst ejk2
  refine lv_aload_n hx hb dX7_over_8 rfl (lv_at hl 0 rfl) ?_
  refine w_callVv (lf := fun g => (L, g)) (As := []) (rest := []) cx.fix hw (c_X7_requireNumber0 l G L f _ x fs hxL hxo hfs1) hxL hxo rfl rfl (w_cV 0 hts u_115 u_116 u_117 u_118 u_119 rfl rfl (by decide) (by decide)) hl.1 rfl (lv_room (Nat.le_of_ble_eq_true rfl)) dX7_over_9 (by decide) (fun u H locs hp hw => ?_)
  have hw : wH G A s.heap s L u H locs := hw
  rw [hp] at hw
  have hboth : (inB (nI j) 80 && inB (nI k2) 80) = true := by rw [hinj, hink2]; rfl
  refine lv_aload_n hx hb dX7_over_12 rfl (lv_at hl 0 rfl) ?_
  refine lv_iload_n hx hb dX7_over_13 rfl (lv_at hl 1 rfl) ?_
  refine lv_aload_n hx hb dX7_over_14 rfl (lv_at hl 0 rfl) ?_
  refine w_get (C := RX7) (T := TX7) (N := 15) (ci := 7) (ref := "LiftFactors") (v := .ref b1) hx hb hts inX7_u hown hw hxL hxo rfl 5 (by decide) u_102 rfl hfs5 dX7_over_15 ?_
  refine w_callVv (lf := fun g => (L, g)) (As := [.int (nI j), .ref b1]) (rest := []) cx.fix hw (c_X7_load l G L f _ x b1 co j fs cr0 cr (fun _ _ => 0 : Nat → Nat → Int32) r1 hxL hxo hfs0 hco hcoL hcr hcrL hcv h1L hb1 hj) hxL hxo rfl rfl (w_cV 2 hts u_103 u_104 u_105 u_106 u_107 rfl rfl (by decide) (by decide)) hl.1 rfl (lv_room (Nat.le_of_ble_eq_true rfl)) dX7_over_18 (by decide) (fun u H locs hp hw => ?_)
  have hw : wH G A s.heap s L u H locs := hw
  rw [hp] at hw
  obtain ⟨f1, hf1⟩ : ∃ g, g = va_up f b1 (eJ G 11 (prL (fun k => ((fun _ _ => 0 : Nat → Nat → Int32) j k).toInt64) r1 11)) := ⟨_, rfl⟩
  rw [← hf1] at hw
  have h1_x : f1 x = eO 7 fs := by rw [hf1, va_up_ne _ _ n_x_b1]; exact hxo
  have h1_b1 : f1 b1 = eJ G 11 (prL (fun k => ((fun _ _ => 0 : Nat → Nat → Int32) j k).toInt64) r1 11) := by rw [hf1]; exact va_up_eq _ _ _
  have h1_b2 : f1 b2 = eJ G 11 r2 := by rw [hf1, va_up_ne _ _ n_b2_b1]; exact hb2
  have h1_b3 : f1 b3 = eJ G 11 r3 := by rw [hf1, va_up_ne _ _ n_b3_b1]; exact hb3
  have h1_b4 : f1 b4 = eJ G 21 r4 := by rw [hf1, va_up_ne _ _ n_b4_b1]; exact hb4
  have h1_co : f1 co = eII G 80 cr0 := by rw [hf1, va_up_ne _ _ n_co_b1]; exact hco
  have h1_o3 : f1 o3 = eO 1 fs3 := by rw [hf1, va_up_ne _ _ n_o3_b1]; exact ho3
  have h1_o6 : f1 o6 = eO 5 fs6 := by rw [hf1, va_up_ne _ _ n_o6_b1]; exact ho6
  have hcv1 : ∀ j, j < 80 → f1 (cr j) = eI G 11 (fun _ => 0) := fun j hj => by rw [hf1, va_up_ne _ _ (hncr_b1 j hj)]; exact hcv j hj
  have ho1 : ∀ q : Nat, ¬ own q → f1 q = f q := fun q hq => (show f1 q = f q from by rw [hf1]; exact va_up_ne _ _ (fun h9 => hq (by rw [h9]; exact ow_b1))).trans (ho0 q hq)
  refine lv_aload_n hx hb dX7_over_21 rfl (lv_at hl 0 rfl) ?_
  refine lv_iload_n hx hb dX7_over_22 rfl (lv_at hl 2 rfl) ?_
  refine lv_aload_n hx hb dX7_over_23 rfl (lv_at hl 0 rfl) ?_
  refine w_get (C := RX7) (T := TX7) (N := 15) (ci := 7) (ref := "LiftFactors") (v := .ref b2) hx hb hts inX7_u hown hw hxL h1_x rfl 6 (by decide) u_142 rfl hfs6 dX7_over_24 ?_
  refine w_callVv (lf := fun g => (L, g)) (As := [.int (nI k2), .ref b2]) (rest := []) cx.fix hw (c_X7_load l G L f1 _ x b2 co k2 fs cr0 cr (fun _ _ => 0 : Nat → Nat → Int32) r2 hxL h1_x hfs0 h1_co hcoL hcr hcrL hcv1 h2L h1_b2 hk2) hxL h1_x rfl rfl (w_cV 2 hts u_103 u_104 u_105 u_106 u_107 rfl rfl (by decide) (by decide)) hl.1 rfl (lv_room (Nat.le_of_ble_eq_true rfl)) dX7_over_27 (by decide) (fun u H locs hp hw => ?_)
  have hw : wH G A s.heap s L u H locs := hw
  rw [hp] at hw
  obtain ⟨f2, hf2⟩ : ∃ g, g = va_up f1 b2 (eJ G 11 (prL (fun k => ((fun _ _ => 0 : Nat → Nat → Int32) k2 k).toInt64) r2 11)) := ⟨_, rfl⟩
  rw [← hf2] at hw
  have h2_x : f2 x = eO 7 fs := by rw [hf2, va_up_ne _ _ n_x_b2]; exact h1_x
  have h2_b1 : f2 b1 = eJ G 11 (prL (fun k => ((fun _ _ => 0 : Nat → Nat → Int32) j k).toInt64) r1 11) := by rw [hf2, va_up_ne _ _ n_b1_b2]; exact h1_b1
  have h2_b2 : f2 b2 = eJ G 11 (prL (fun k => ((fun _ _ => 0 : Nat → Nat → Int32) k2 k).toInt64) r2 11) := by rw [hf2]; exact va_up_eq _ _ _
  have h2_b3 : f2 b3 = eJ G 11 r3 := by rw [hf2, va_up_ne _ _ n_b3_b2]; exact h1_b3
  have h2_b4 : f2 b4 = eJ G 21 r4 := by rw [hf2, va_up_ne _ _ n_b4_b2]; exact h1_b4
  have h2_co : f2 co = eII G 80 cr0 := by rw [hf2, va_up_ne _ _ n_co_b2]; exact h1_co
  have h2_o3 : f2 o3 = eO 1 fs3 := by rw [hf2, va_up_ne _ _ n_o3_b2]; exact h1_o3
  have h2_o6 : f2 o6 = eO 5 fs6 := by rw [hf2, va_up_ne _ _ n_o6_b2]; exact h1_o6
  have hcv2 : ∀ j, j < 80 → f2 (cr j) = eI G 11 (fun _ => 0) := fun j hj => by rw [hf2, va_up_ne _ _ (hncr_b2 j hj)]; exact hcv1 j hj
  have ho2 : ∀ q : Nat, ¬ own q → f2 q = f q := fun q hq => (show f2 q = f1 q from by rw [hf2]; exact va_up_ne _ _ (fun h9 => hq (by rw [h9]; exact ow_b2))).trans (ho1 q hq)
  refine lv_aload_n hx hb dX7_over_30 rfl (lv_at hl 0 rfl) ?_
  refine w_get (C := RX7) (T := TX7) (N := 15) (ci := 7) (ref := "LiftFactors") (v := .ref b2) hx hb hts inX7_u hown hw hxL h2_x rfl 6 (by decide) u_142 rfl hfs6 dX7_over_31 ?_
  refine w_callSi (lf := fun g => (L, g)) (As := [.ref b2]) (rest := []) cx.fix hw (c_X5_degree l G L f2 _ b2 11 (prL (fun k => ((fun _ _ => 0 : Nat → Nat → Int32) k2 k).toInt64) r2 11) h2L h2_b2 (by decide)) (w_cS 1 hts u_108 u_8 u_9 u_10 rfl rfl (by decide) (by decide)) hl.1 rfl (lv_room (Nat.le_of_ble_eq_true rfl)) dX7_over_34 (by decide) (fun r9 u H locs hp hw => ?_)
  obtain ⟨e9, e10⟩ := hp
  have hw : wH G A s.heap s L u H locs := hw
  rw [e10] at hw
  rw [z_load r2 k2] at e9
  subst e9
  refine lv_if_ge (tgt := 50) hx hb dX7_over_37 (by decide) (fun h => absurd h (by decide)) (fun _ => ?_)
  exact w_throwS (text := "nothing is divided by 0") hx hb hl0 hown hts fit_AR fitn_2 uw_classLink_RX7_135_nAR uw_initialized_nAR (by decide +kernel) at_AR an_AR ot_AR hX hw (hl.1.trans hml.symm) dX7_over_40 dX7_over_43 dX7_over_44 dX7_over_46 dX7_over_49 hnt (by decide) (by decide) (by decide) (by decide) hlocks (⟨Or.inr ⟨rfl, hboth⟩, ho2⟩) (by decide) (by decide)
set_option maxRecDepth 100000 in
set_option maxHeartbeats 4000000 in
theorem z_X7_gcd (l : Launch) (hl0 : l.stackTraces = false) (G : gG) (L : List Nat) (f : Nat → va_E) (sz : Nat) (x : Nat) (own : Nat → Prop) (hz : cZ G L f x own) (v k : Int32) :
    vx_Met l yX7_gcd (uW yX7_gcd cX7_gcd 3 (some .int)) { frames := 8, cells := 2, slots := 12, locals := 115 } (wInX G [.ref x, .int v, .int k] L f sz) (va_Qi (fun (r9 : Int32) (g : Nat → va_E) => ((inB v 80 && inB k 80) = true ∧ r9 = nI 0) ∧ cO own f g) (fun g => wAt G (wA L f sz) L g) (wA L f sz)) (xX G (wA L f sz) L (fun E g => E = nAI ∧ (inB v 80 && inB k 80) = false ∧ cO own f g)) 2 12 (wA L f sz) := by
  refine wEnterX (by decide) (Nat.le_of_ble_eq_true rfl) ?_
  intro p e s m below meth c ls cx hnt hl hsz hw hX
  obtain ⟨hx, hb, hr, hml, hown, hts, hlocks⟩ := id cx
  have hown : s.vm.findClass RX7 = some m.cls := hown
  have hl : lv_has ls 3 [(0, .ref x), (1, .int v), (2, .int k)] := hl
  generalize wA L f sz = A at hw hX ⊢
  obtain ⟨fs, fs6, fs3, co, b1, b2, b3, b4, o3, o6, cr0, cr, r1, r2, r3, r4, hxL, hxo, hfl, hfs0, hfs1, hfs4, hfs5, hfs6, hfs7, hfs8, hfs11, hfs14, hcoL, hco, hcr, hcrL, hcv, h1L, hb1, h2L, hb2, h3L, hb3, h4L, hb4, n12, n13, n23, ho3L, ho3, ho6L, ho6, hfl6, ow_x, ow_b1, ow_b2, ow_b3, ow_b4, ow_o6, ow_cr⟩ := hz
  have n_x_b1 : x ≠ b1 := ne_E hb1 hxo (by simp)
  have n_x_b2 : x ≠ b2 := ne_E hb2 hxo (by simp)
  have n_x_b3 : x ≠ b3 := ne_E hb3 hxo (by simp)
  have n_x_b4 : x ≠ b4 := ne_E hb4 hxo (by simp)
  have n_x_co : x ≠ co := ne_E hco hxo (by simp)
  have n_x_o3 : x ≠ o3 := ne_E ho3 hxo (by simp)
  have n_x_o6 : x ≠ o6 := ne_E ho6 hxo (by simp)
  have n_b1_x : b1 ≠ x := ne_E hxo hb1 (by simp)
  have n_b1_b2 : b1 ≠ b2 := n12
  have n_b1_b3 : b1 ≠ b3 := n13
  have n_b1_b4 : b1 ≠ b4 := ne_E hb4 hb1 (by simp)
  have n_b1_co : b1 ≠ co := ne_E hco hb1 (by simp)
  have n_b1_o3 : b1 ≠ o3 := ne_E ho3 hb1 (by simp)
  have n_b1_o6 : b1 ≠ o6 := ne_E ho6 hb1 (by simp)
  have n_b2_x : b2 ≠ x := ne_E hxo hb2 (by simp)
  have n_b2_b1 : b2 ≠ b1 := (n12).symm
  have n_b2_b3 : b2 ≠ b3 := n23
  have n_b2_b4 : b2 ≠ b4 := ne_E hb4 hb2 (by simp)
  have n_b2_co : b2 ≠ co := ne_E hco hb2 (by simp)
  have n_b2_o3 : b2 ≠ o3 := ne_E ho3 hb2 (by simp)
  have n_b2_o6 : b2 ≠ o6 := ne_E ho6 hb2 (by simp)
  have n_b3_x : b3 ≠ x := ne_E hxo hb3 (by simp)
  have n_b3_b1 : b3 ≠ b1 := (n13).symm
  have n_b3_b2 : b3 ≠ b2 := (n23).symm
  have n_b3_b4 : b3 ≠ b4 := ne_E hb4 hb3 (by simp)
  have n_b3_co : b3 ≠ co := ne_E hco hb3 (by simp)
  have n_b3_o3 : b3 ≠ o3 := ne_E ho3 hb3 (by simp)
  have n_b3_o6 : b3 ≠ o6 := ne_E ho6 hb3 (by simp)
  have n_b4_x : b4 ≠ x := ne_E hxo hb4 (by simp)
  have n_b4_b1 : b4 ≠ b1 := ne_E hb1 hb4 (by simp)
  have n_b4_b2 : b4 ≠ b2 := ne_E hb2 hb4 (by simp)
  have n_b4_b3 : b4 ≠ b3 := ne_E hb3 hb4 (by simp)
  have n_b4_co : b4 ≠ co := ne_E hco hb4 (by simp)
  have n_b4_o3 : b4 ≠ o3 := ne_E ho3 hb4 (by simp)
  have n_b4_o6 : b4 ≠ o6 := ne_E ho6 hb4 (by simp)
  have n_co_x : co ≠ x := ne_E hxo hco (by simp)
  have n_co_b1 : co ≠ b1 := ne_E hb1 hco (by simp)
  have n_co_b2 : co ≠ b2 := ne_E hb2 hco (by simp)
  have n_co_b3 : co ≠ b3 := ne_E hb3 hco (by simp)
  have n_co_b4 : co ≠ b4 := ne_E hb4 hco (by simp)
  have n_co_o3 : co ≠ o3 := ne_E ho3 hco (by simp)
  have n_co_o6 : co ≠ o6 := ne_E ho6 hco (by simp)
  have n_o3_x : o3 ≠ x := ne_E hxo ho3 (by simp)
  have n_o3_b1 : o3 ≠ b1 := ne_E hb1 ho3 (by simp)
  have n_o3_b2 : o3 ≠ b2 := ne_E hb2 ho3 (by simp)
  have n_o3_b3 : o3 ≠ b3 := ne_E hb3 ho3 (by simp)
  have n_o3_b4 : o3 ≠ b4 := ne_E hb4 ho3 (by simp)
  have n_o3_co : o3 ≠ co := ne_E hco ho3 (by simp)
  have n_o3_o6 : o3 ≠ o6 := ne_E ho6 ho3 (by simp)
  have n_o6_x : o6 ≠ x := ne_E hxo ho6 (by simp)
  have n_o6_b1 : o6 ≠ b1 := ne_E hb1 ho6 (by simp)
  have n_o6_b2 : o6 ≠ b2 := ne_E hb2 ho6 (by simp)
  have n_o6_b3 : o6 ≠ b3 := ne_E hb3 ho6 (by simp)
  have n_o6_b4 : o6 ≠ b4 := ne_E hb4 ho6 (by simp)
  have n_o6_co : o6 ≠ co := ne_E hco ho6 (by simp)
  have n_o6_o3 : o6 ≠ o3 := ne_E ho3 ho6 (by simp)
  have ho0 : ∀ q : Nat, ¬ own q → f q = f q := fun q _ => rfl
  have hncr_x : ∀ j, j < 80 → cr j ≠ x := fun j hj => ne_E hxo (hcv j hj) (by simp)
  have hncr_b1 : ∀ j, j < 80 → cr j ≠ b1 := fun j hj => ne_E hb1 (hcv j hj) (by simp)
  have hncr_b2 : ∀ j, j < 80 → cr j ≠ b2 := fun j hj => ne_E hb2 (hcv j hj) (by simp)
  have hncr_b3 : ∀ j, j < 80 → cr j ≠ b3 := fun j hj => ne_E hb3 (hcv j hj) (by simp)
  have hncr_b4 : ∀ j, j < 80 → cr j ≠ b4 := fun j hj => ne_E hb4 (hcv j hj) (by simp)
  have hncr_o6 : ∀ j, j < 80 → cr j ≠ o6 := fun j hj => ne_E ho6 (hcv j hj) (by simp)
  refine lv_iload_n hx hb dX7_gcd_0 rfl (lv_at hl 1 rfl) ?_
  refine x_callSv (As := [.int v]) (rest := []) cx.fix hX hw (x_X7_requirePolynomial l hl0 G L f _ v) (w_cS 1 hts u_98 u_99 u_100 u_101 rfl rfl (by decide) (by decide)) hl.1 rfl (lv_room (Nat.le_of_ble_eq_true rfl)) dX7_gcd_1 (by decide) (fun E ce q9 u H locs hpe hw hce hcv hcl => ?_) (fun u H locs hp hw => ?_)
  · obtain ⟨hE, hno, e10⟩ := hpe
    rw [e10] at hw
    exact x_out hnt hlocks hw (⟨hE, by rw [hno]; rfl, ho0⟩) hce hcv hcl (by decide) (by decide)
  obtain ⟨hinj, e10⟩ := hp
  rw [e10] at hw
  obtain ⟨j, hj, ejj⟩ := inB_of (by decide) hinj
  subst ejj
  refine lv_iload_n hx hb dX7_gcd_4 rfl (lv_at hl 2 rfl) ?_
  refine x_callSv (As := [.int k]) (rest := []) cx.fix hX hw (x_X7_requirePolynomial l hl0 G L f _ k) (w_cS 1 hts u_98 u_99 u_100 u_101 rfl rfl (by decide) (by decide)) hl.1 rfl (lv_room (Nat.le_of_ble_eq_true rfl)) dX7_gcd_5 (by decide) (fun E ce q9 u H locs hpe hw hce hcv hcl => ?_) (fun u H locs hp hw => ?_)
  · obtain ⟨hE, hno, e10⟩ := hpe
    rw [e10] at hw
    exact x_out hnt hlocks hw (⟨hE, by rw [hno, Bool.and_false], ho0⟩) hce hcv hcl (by decide) (by decide)
  obtain ⟨hink2, e10⟩ := hp
  rw [e10] at hw
  obtain ⟨k2, hk2, ejk2⟩ := inB_of (by decide) hink2
  subst ejk2
  refine lv_aload_n hx hb dX7_gcd_8 rfl (lv_at hl 0 rfl) ?_
  refine w_callVv (lf := fun g => (L, g)) (As := []) (rest := []) cx.fix hw (c_X7_requireNumber0 l G L f _ x fs hxL hxo hfs1) hxL hxo rfl rfl (w_cV 0 hts u_115 u_116 u_117 u_118 u_119 rfl rfl (by decide) (by decide)) hl.1 rfl (lv_room (Nat.le_of_ble_eq_true rfl)) dX7_gcd_9 (by decide) (fun u H locs hp hw => ?_)
  have hw : wH G A s.heap s L u H locs := hw
  rw [hp] at hw
  have hboth : (inB (nI j) 80 && inB (nI k2) 80) = true := by rw [hinj, hink2]; rfl
  refine lv_aload_n hx hb dX7_gcd_12 rfl (lv_at hl 0 rfl) ?_
  refine lv_iload_n hx hb dX7_gcd_13 rfl (lv_at hl 1 rfl) ?_
  refine lv_aload_n hx hb dX7_gcd_14 rfl (lv_at hl 0 rfl) ?_
  refine w_get (C := RX7) (T := TX7) (N := 15) (ci := 7) (ref := "LiftFactors") (v := .ref b1) hx hb hts inX7_u hown hw hxL hxo rfl 5 (by decide) u_102 rfl hfs5 dX7_gcd_15 ?_
  refine w_callVv (lf := fun g => (L, g)) (As := [.int (nI j), .ref b1]) (rest := []) cx.fix hw (c_X7_load l G L f _ x b1 co j fs cr0 cr (fun _ _ => 0 : Nat → Nat → Int32) r1 hxL hxo hfs0 hco hcoL hcr hcrL hcv h1L hb1 hj) hxL hxo rfl rfl (w_cV 2 hts u_103 u_104 u_105 u_106 u_107 rfl rfl (by decide) (by decide)) hl.1 rfl (lv_room (Nat.le_of_ble_eq_true rfl)) dX7_gcd_18 (by decide) (fun u H locs hp hw => ?_)
  have hw : wH G A s.heap s L u H locs := hw
  rw [hp] at hw
  obtain ⟨f1, hf1⟩ : ∃ g, g = va_up f b1 (eJ G 11 (prL (fun k => ((fun _ _ => 0 : Nat → Nat → Int32) j k).toInt64) r1 11)) := ⟨_, rfl⟩
  rw [← hf1] at hw
  have h1_x : f1 x = eO 7 fs := by rw [hf1, va_up_ne _ _ n_x_b1]; exact hxo
  have h1_b1 : f1 b1 = eJ G 11 (prL (fun k => ((fun _ _ => 0 : Nat → Nat → Int32) j k).toInt64) r1 11) := by rw [hf1]; exact va_up_eq _ _ _
  have h1_b2 : f1 b2 = eJ G 11 r2 := by rw [hf1, va_up_ne _ _ n_b2_b1]; exact hb2
  have h1_b3 : f1 b3 = eJ G 11 r3 := by rw [hf1, va_up_ne _ _ n_b3_b1]; exact hb3
  have h1_b4 : f1 b4 = eJ G 21 r4 := by rw [hf1, va_up_ne _ _ n_b4_b1]; exact hb4
  have h1_co : f1 co = eII G 80 cr0 := by rw [hf1, va_up_ne _ _ n_co_b1]; exact hco
  have h1_o3 : f1 o3 = eO 1 fs3 := by rw [hf1, va_up_ne _ _ n_o3_b1]; exact ho3
  have h1_o6 : f1 o6 = eO 5 fs6 := by rw [hf1, va_up_ne _ _ n_o6_b1]; exact ho6
  have hcv1 : ∀ j, j < 80 → f1 (cr j) = eI G 11 (fun _ => 0) := fun j hj => by rw [hf1, va_up_ne _ _ (hncr_b1 j hj)]; exact hcv j hj
  have ho1 : ∀ q : Nat, ¬ own q → f1 q = f q := fun q hq => (show f1 q = f q from by rw [hf1]; exact va_up_ne _ _ (fun h9 => hq (by rw [h9]; exact ow_b1))).trans (ho0 q hq)
  refine lv_aload_n hx hb dX7_gcd_21 rfl (lv_at hl 0 rfl) ?_
  refine lv_iload_n hx hb dX7_gcd_22 rfl (lv_at hl 2 rfl) ?_
  refine lv_aload_n hx hb dX7_gcd_23 rfl (lv_at hl 0 rfl) ?_
  refine w_get (C := RX7) (T := TX7) (N := 15) (ci := 7) (ref := "LiftFactors") (v := .ref b2) hx hb hts inX7_u hown hw hxL h1_x rfl 6 (by decide) u_142 rfl hfs6 dX7_gcd_24 ?_
  refine w_callVv (lf := fun g => (L, g)) (As := [.int (nI k2), .ref b2]) (rest := []) cx.fix hw (c_X7_load l G L f1 _ x b2 co k2 fs cr0 cr (fun _ _ => 0 : Nat → Nat → Int32) r2 hxL h1_x hfs0 h1_co hcoL hcr hcrL hcv1 h2L h1_b2 hk2) hxL h1_x rfl rfl (w_cV 2 hts u_103 u_104 u_105 u_106 u_107 rfl rfl (by decide) (by decide)) hl.1 rfl (lv_room (Nat.le_of_ble_eq_true rfl)) dX7_gcd_27 (by decide) (fun u H locs hp hw => ?_)
  have hw : wH G A s.heap s L u H locs := hw
  rw [hp] at hw
  obtain ⟨f2, hf2⟩ : ∃ g, g = va_up f1 b2 (eJ G 11 (prL (fun k => ((fun _ _ => 0 : Nat → Nat → Int32) k2 k).toInt64) r2 11)) := ⟨_, rfl⟩
  rw [← hf2] at hw
  have h2_x : f2 x = eO 7 fs := by rw [hf2, va_up_ne _ _ n_x_b2]; exact h1_x
  have h2_b1 : f2 b1 = eJ G 11 (prL (fun k => ((fun _ _ => 0 : Nat → Nat → Int32) j k).toInt64) r1 11) := by rw [hf2, va_up_ne _ _ n_b1_b2]; exact h1_b1
  have h2_b2 : f2 b2 = eJ G 11 (prL (fun k => ((fun _ _ => 0 : Nat → Nat → Int32) k2 k).toInt64) r2 11) := by rw [hf2]; exact va_up_eq _ _ _
  have h2_b3 : f2 b3 = eJ G 11 r3 := by rw [hf2, va_up_ne _ _ n_b3_b2]; exact h1_b3
  have h2_b4 : f2 b4 = eJ G 21 r4 := by rw [hf2, va_up_ne _ _ n_b4_b2]; exact h1_b4
  have h2_co : f2 co = eII G 80 cr0 := by rw [hf2, va_up_ne _ _ n_co_b2]; exact h1_co
  have h2_o3 : f2 o3 = eO 1 fs3 := by rw [hf2, va_up_ne _ _ n_o3_b2]; exact h1_o3
  have h2_o6 : f2 o6 = eO 5 fs6 := by rw [hf2, va_up_ne _ _ n_o6_b2]; exact h1_o6
  have hcv2 : ∀ j, j < 80 → f2 (cr j) = eI G 11 (fun _ => 0) := fun j hj => by rw [hf2, va_up_ne _ _ (hncr_b2 j hj)]; exact hcv1 j hj
  have ho2 : ∀ q : Nat, ¬ own q → f2 q = f q := fun q hq => (show f2 q = f1 q from by rw [hf2]; exact va_up_ne _ _ (fun h9 => hq (by rw [h9]; exact ow_b2))).trans (ho1 q hq)
  refine lv_aload_n hx hb dX7_gcd_30 rfl (lv_at hl 0 rfl) ?_
  refine w_get (C := RX7) (T := TX7) (N := 15) (ci := 7) (ref := "LiftFactors") (v := .ref o3) hx hb hts inX7_u hown hw hxL h2_x rfl 11 (by decide) u_143 rfl hfs11 dX7_gcd_31 ?_
  refine lv_aload_n hx hb dX7_gcd_34 rfl (lv_at hl 0 rfl) ?_
  refine w_get (C := RX7) (T := TX7) (N := 15) (ci := 7) (ref := "LiftFactors") (v := .ref b1) hx hb hts inX7_u hown hw hxL h2_x rfl 5 (by decide) u_102 rfl hfs5 dX7_gcd_35 ?_
  refine lv_aload_n hx hb dX7_gcd_38 rfl (lv_at hl 0 rfl) ?_
  refine w_get (C := RX7) (T := TX7) (N := 15) (ci := 7) (ref := "LiftFactors") (v := .ref b2) hx hb hts inX7_u hown hw hxL h2_x rfl 6 (by decide) u_142 rfl hfs6 dX7_gcd_39 ?_
  refine lv_aload_n hx hb dX7_gcd_42 rfl (lv_at hl 0 rfl) ?_
  refine w_get (C := RX7) (T := TX7) (N := 15) (ci := 7) (ref := "LiftFactors") (v := .ref b3) hx hb hts inX7_u hown hw hxL h2_x rfl 7 (by decide) u_120 rfl hfs7 dX7_gcd_43 ?_
  refine w_callVv (lf := fun g => (L, g)) (As := [.ref b1, .ref b2, .ref b3]) (rest := []) cx.fix hw (c_X0_find0 l G L f2 _ o3 b1 b2 b3 (prL (fun k => ((fun _ _ => 0 : Nat → Nat → Int32) j k).toInt64) r1 11) (prL (fun k => ((fun _ _ => 0 : Nat → Nat → Int32) k2 k).toInt64) r2 11) r3 h1L h2L h3L h2_b1 h2_b2 h2_b3 (z_load r1 j) (z_load r2 k2) n23) ho3L h2_o3 rfl rfl (w_cV 3 hts u_144 u_145 u_146 u_147 u_148 rfl rfl (by decide) (by decide)) hl.1 rfl (lv_room (Nat.le_of_ble_eq_true rfl)) dX7_gcd_46 (by decide) (fun u H locs hp hw => ?_)
  have hw : wH G A s.heap s L u H locs := hw
  rw [hp] at hw
  obtain ⟨f3, hf3⟩ : ∃ g, g = va_up f2 b3 (eJ G 11 (prL (prL (fun k => ((fun _ _ => 0 : Nat → Nat → Int32) k2 k).toInt64) r2 11) r3 11)) := ⟨_, rfl⟩
  rw [← hf3] at hw
  have h3_x : f3 x = eO 7 fs := by rw [hf3, va_up_ne _ _ n_x_b3]; exact h2_x
  have h3_b1 : f3 b1 = eJ G 11 (prL (fun k => ((fun _ _ => 0 : Nat → Nat → Int32) j k).toInt64) r1 11) := by rw [hf3, va_up_ne _ _ n_b1_b3]; exact h2_b1
  have h3_b2 : f3 b2 = eJ G 11 (prL (fun k => ((fun _ _ => 0 : Nat → Nat → Int32) k2 k).toInt64) r2 11) := by rw [hf3, va_up_ne _ _ n_b2_b3]; exact h2_b2
  have h3_b3 : f3 b3 = eJ G 11 (prL (prL (fun k => ((fun _ _ => 0 : Nat → Nat → Int32) k2 k).toInt64) r2 11) r3 11) := by rw [hf3]; exact va_up_eq _ _ _
  have h3_b4 : f3 b4 = eJ G 21 r4 := by rw [hf3, va_up_ne _ _ n_b4_b3]; exact h2_b4
  have h3_co : f3 co = eII G 80 cr0 := by rw [hf3, va_up_ne _ _ n_co_b3]; exact h2_co
  have h3_o3 : f3 o3 = eO 1 fs3 := by rw [hf3, va_up_ne _ _ n_o3_b3]; exact h2_o3
  have h3_o6 : f3 o6 = eO 5 fs6 := by rw [hf3, va_up_ne _ _ n_o6_b3]; exact h2_o6
  have hcv3 : ∀ j, j < 80 → f3 (cr j) = eI G 11 (fun _ => 0) := fun j hj => by rw [hf3, va_up_ne _ _ (hncr_b3 j hj)]; exact hcv2 j hj
  have ho3 : ∀ q : Nat, ¬ own q → f3 q = f q := fun q hq => (show f3 q = f2 q from by rw [hf3]; exact va_up_ne _ _ (fun h9 => hq (by rw [h9]; exact ow_b3))).trans (ho2 q hq)
  refine lv_aload_n hx hb dX7_gcd_49 rfl (lv_at hl 0 rfl) ?_
  refine w_get (C := RX7) (T := TX7) (N := 15) (ci := 7) (ref := "LiftFactors") (v := .ref b3) hx hb hts inX7_u hown hw hxL h3_x rfl 7 (by decide) u_120 rfl hfs7 dX7_gcd_50 ?_
  refine w_callSi (lf := fun g => (L, g)) (As := [.ref b3]) (rest := []) cx.fix hw (c_X7_isTooGreat l G L f3 _ b3 11 (prL (prL (fun k => ((fun _ _ => 0 : Nat → Nat → Int32) k2 k).toInt64) r2 11) r3 11) h3L h3_b3 (by decide)) (w_cS 1 hts u_149 u_150 u_151 u_152 rfl rfl (by decide) (by decide)) hl.1 rfl (lv_room (Nat.le_of_ble_eq_true rfl)) dX7_gcd_53 (by decide) (fun r9 u H locs hp hw => ?_)
  obtain ⟨h9, e10⟩ := hp
  have hw : wH G A s.heap s L u H locs := hw
  rw [e10] at hw
  have e9 : r9 = nI 0 := by
    rcases h9 with ⟨-, k, hk, hk3⟩ | ⟨e9, -⟩
    · exact absurd (by rw [show (prL (prL (fun k => ((fun _ _ => 0 : Nat → Nat → Int32) k2 k).toInt64) r2 11) r3 11) k = (0 : Int32).toInt64 from (if_pos hk).trans (if_pos hk)]; unfold okC bndC; rw [if_pos (by omega)]; decide) hk3
    · exact e9
  subst e9
  refine lv_if_eq (tgt := 61) hx hb dX7_gcd_56 (by decide) (fun _ => ?_) (fun h => absurd (by decide) h)
  refine lv_aload_n hx hb dX7_gcd_61 rfl (lv_at hl 0 rfl) ?_
  refine lv_aload_n hx hb dX7_gcd_62 rfl (lv_at hl 0 rfl) ?_
  refine w_get (C := RX7) (T := TX7) (N := 15) (ci := 7) (ref := "LiftFactors") (v := .ref b3) hx hb hts inX7_u hown hw hxL h3_x rfl 7 (by decide) u_120 rfl hfs7 dX7_gcd_63 ?_
  refine w_callVi (lf := fun g => (L, g)) (As := [.ref b3]) (rest := []) cx.fix hw (c_X7_keep l G L f3 _ x b3 co 0 11 fs cr0 cr (fun _ _ => 0 : Nat → Nat → Int32) (prL (prL (fun k => ((fun _ _ => 0 : Nat → Nat → Int32) k2 k).toInt64) r2 11) r3 11) hxL h3_x hfl hfs0 hfs1 h3_co hcoL hcr hcrL hcv3 h3L h3_b3 (by decide) (by decide) (by decide)) hxL h3_x rfl rfl (w_cV 1 hts u_125 u_126 u_127 u_128 u_129 rfl rfl (by decide) (by decide)) hl.1 rfl (lv_room (Nat.le_of_ble_eq_true rfl)) dX7_gcd_66 (by decide) (fun r9 u H locs hp hw => ?_)
  obtain ⟨e9, e10⟩ := hp
  have hw : wH G A s.heap s L u H locs := hw
  rw [e10] at hw
  subst e9
  refine vx_ret ?_
  refine W.widen (k := 2) (n := 12) (by decide) (by decide) ?_
  exact w_iret (lf := fun g => (L, g)) hx hb hr hlocks _ hw (⟨⟨hboth, rfl⟩, fun q hq => ((va_up_ne _ _ (fun h9 => hq (by rw [h9]; exact ow_x))).trans (va_up_ne _ _ (fun h9 => hq (by rw [h9]; exact ow_cr 0 (by decide))))).trans (ho3 q hq)⟩) dX7_gcd_69
set_option maxRecDepth 100000 in
set_option maxHeartbeats 4000000 in
theorem z_X7_parts (l : Launch) (hl0 : l.stackTraces = false) (G : gG) (L : List Nat) (f : Nat → va_E) (sz : Nat) (x : Nat) (own : Nat → Prop) (hz : cZ G L f x own) (v z : Int32) :
    vx_Met l yX7_parts (uW yX7_parts cX7_parts 4 (some .int)) { frames := 8, cells := 2, slots := 12, locals := 115 } (wInX G [.ref x, .int v, .int z] L f sz) (va_Qi (fun (r9 : Int32) (g : Nat → va_E) => ((inB v 80 && spB z) = true ∧ r9 = -1) ∧ cO own f g) (fun g => wAt G (wA L f sz) L g) (wA L f sz)) (xX G (wA L f sz) L (fun E g => (E = nAI ∧ inB v 80 = false ∨ E = nIA ∧ inB v 80 = true ∧ spB z = false) ∧ cO own f g)) 2 12 (wA L f sz) := by
  refine wEnterX (by decide) (Nat.le_of_ble_eq_true rfl) ?_
  intro p e s m below meth c ls cx hnt hl hsz hw hX
  obtain ⟨hx, hb, hr, hml, hown, hts, hlocks⟩ := id cx
  have hown : s.vm.findClass RX7 = some m.cls := hown
  have hl : lv_has ls 4 [(0, .ref x), (1, .int v), (2, .int z)] := hl
  generalize wA L f sz = A at hw hX ⊢
  obtain ⟨fs, fs6, fs3, co, b1, b2, b3, b4, o3, o6, cr0, cr, r1, r2, r3, r4, hxL, hxo, hfl, hfs0, hfs1, hfs4, hfs5, hfs6, hfs7, hfs8, hfs11, hfs14, hcoL, hco, hcr, hcrL, hcv, h1L, hb1, h2L, hb2, h3L, hb3, h4L, hb4, n12, n13, n23, ho3L, ho3, ho6L, ho6, hfl6, ow_x, ow_b1, ow_b2, ow_b3, ow_b4, ow_o6, ow_cr⟩ := hz
  have n_x_b1 : x ≠ b1 := ne_E hb1 hxo (by simp)
  have n_x_b2 : x ≠ b2 := ne_E hb2 hxo (by simp)
  have n_x_b3 : x ≠ b3 := ne_E hb3 hxo (by simp)
  have n_x_b4 : x ≠ b4 := ne_E hb4 hxo (by simp)
  have n_x_co : x ≠ co := ne_E hco hxo (by simp)
  have n_x_o3 : x ≠ o3 := ne_E ho3 hxo (by simp)
  have n_x_o6 : x ≠ o6 := ne_E ho6 hxo (by simp)
  have n_b1_x : b1 ≠ x := ne_E hxo hb1 (by simp)
  have n_b1_b2 : b1 ≠ b2 := n12
  have n_b1_b3 : b1 ≠ b3 := n13
  have n_b1_b4 : b1 ≠ b4 := ne_E hb4 hb1 (by simp)
  have n_b1_co : b1 ≠ co := ne_E hco hb1 (by simp)
  have n_b1_o3 : b1 ≠ o3 := ne_E ho3 hb1 (by simp)
  have n_b1_o6 : b1 ≠ o6 := ne_E ho6 hb1 (by simp)
  have n_b2_x : b2 ≠ x := ne_E hxo hb2 (by simp)
  have n_b2_b1 : b2 ≠ b1 := (n12).symm
  have n_b2_b3 : b2 ≠ b3 := n23
  have n_b2_b4 : b2 ≠ b4 := ne_E hb4 hb2 (by simp)
  have n_b2_co : b2 ≠ co := ne_E hco hb2 (by simp)
  have n_b2_o3 : b2 ≠ o3 := ne_E ho3 hb2 (by simp)
  have n_b2_o6 : b2 ≠ o6 := ne_E ho6 hb2 (by simp)
  have n_b3_x : b3 ≠ x := ne_E hxo hb3 (by simp)
  have n_b3_b1 : b3 ≠ b1 := (n13).symm
  have n_b3_b2 : b3 ≠ b2 := (n23).symm
  have n_b3_b4 : b3 ≠ b4 := ne_E hb4 hb3 (by simp)
  have n_b3_co : b3 ≠ co := ne_E hco hb3 (by simp)
  have n_b3_o3 : b3 ≠ o3 := ne_E ho3 hb3 (by simp)
  have n_b3_o6 : b3 ≠ o6 := ne_E ho6 hb3 (by simp)
  have n_b4_x : b4 ≠ x := ne_E hxo hb4 (by simp)
  have n_b4_b1 : b4 ≠ b1 := ne_E hb1 hb4 (by simp)
  have n_b4_b2 : b4 ≠ b2 := ne_E hb2 hb4 (by simp)
  have n_b4_b3 : b4 ≠ b3 := ne_E hb3 hb4 (by simp)
  have n_b4_co : b4 ≠ co := ne_E hco hb4 (by simp)
  have n_b4_o3 : b4 ≠ o3 := ne_E ho3 hb4 (by simp)
  have n_b4_o6 : b4 ≠ o6 := ne_E ho6 hb4 (by simp)
  have n_co_x : co ≠ x := ne_E hxo hco (by simp)
  have n_co_b1 : co ≠ b1 := ne_E hb1 hco (by simp)
  have n_co_b2 : co ≠ b2 := ne_E hb2 hco (by simp)
  have n_co_b3 : co ≠ b3 := ne_E hb3 hco (by simp)
  have n_co_b4 : co ≠ b4 := ne_E hb4 hco (by simp)
  have n_co_o3 : co ≠ o3 := ne_E ho3 hco (by simp)
  have n_co_o6 : co ≠ o6 := ne_E ho6 hco (by simp)
  have n_o3_x : o3 ≠ x := ne_E hxo ho3 (by simp)
  have n_o3_b1 : o3 ≠ b1 := ne_E hb1 ho3 (by simp)
  have n_o3_b2 : o3 ≠ b2 := ne_E hb2 ho3 (by simp)
  have n_o3_b3 : o3 ≠ b3 := ne_E hb3 ho3 (by simp)
  have n_o3_b4 : o3 ≠ b4 := ne_E hb4 ho3 (by simp)
  have n_o3_co : o3 ≠ co := ne_E hco ho3 (by simp)
  have n_o3_o6 : o3 ≠ o6 := ne_E ho6 ho3 (by simp)
  have n_o6_x : o6 ≠ x := ne_E hxo ho6 (by simp)
  have n_o6_b1 : o6 ≠ b1 := ne_E hb1 ho6 (by simp)
  have n_o6_b2 : o6 ≠ b2 := ne_E hb2 ho6 (by simp)
  have n_o6_b3 : o6 ≠ b3 := ne_E hb3 ho6 (by simp)
  have n_o6_b4 : o6 ≠ b4 := ne_E hb4 ho6 (by simp)
  have n_o6_co : o6 ≠ co := ne_E hco ho6 (by simp)
  have n_o6_o3 : o6 ≠ o3 := ne_E ho3 ho6 (by simp)
  have ho0 : ∀ q : Nat, ¬ own q → f q = f q := fun q _ => rfl
  have hncr_x : ∀ j, j < 80 → cr j ≠ x := fun j hj => ne_E hxo (hcv j hj) (by simp)
  have hncr_b1 : ∀ j, j < 80 → cr j ≠ b1 := fun j hj => ne_E hb1 (hcv j hj) (by simp)
  have hncr_b2 : ∀ j, j < 80 → cr j ≠ b2 := fun j hj => ne_E hb2 (hcv j hj) (by simp)
  have hncr_b3 : ∀ j, j < 80 → cr j ≠ b3 := fun j hj => ne_E hb3 (hcv j hj) (by simp)
  have hncr_b4 : ∀ j, j < 80 → cr j ≠ b4 := fun j hj => ne_E hb4 (hcv j hj) (by simp)
  have hncr_o6 : ∀ j, j < 80 → cr j ≠ o6 := fun j hj => ne_E ho6 (hcv j hj) (by simp)
  refine lv_iload_n hx hb dX7_parts_0 rfl (lv_at hl 1 rfl) ?_
  refine x_callSv (As := [.int v]) (rest := []) cx.fix hX hw (x_X7_requirePolynomial l hl0 G L f _ v) (w_cS 1 hts u_98 u_99 u_100 u_101 rfl rfl (by decide) (by decide)) hl.1 rfl (lv_room (Nat.le_of_ble_eq_true rfl)) dX7_parts_1 (by decide) (fun E ce q9 u H locs hpe hw hce hcv hcl => ?_) (fun u H locs hp hw => ?_)
  · obtain ⟨hE, hno, e10⟩ := hpe
    rw [e10] at hw
    exact x_out hnt hlocks hw (⟨Or.inl ⟨hE, hno⟩, ho0⟩) hce hcv hcl (by decide) (by decide)
  obtain ⟨hinj, e10⟩ := hp
  rw [e10] at hw
  obtain ⟨j, hj, ejj⟩ := inB_of (by decide) hinj
  subst ejj
  refine lv_iload_n hx hb dX7_parts_4 rfl (lv_at hl 2 rfl) ?_
  refine w_callSi (lf := fun g => (L, g)) (As := [.int z]) (rest := []) cx.fix hw (c_X7_isSmallPrime l G L f _ z) (w_cS 1 hts u_153 u_154 u_155 u_156 rfl rfl (by decide) (by decide)) hl.1 rfl (lv_room (Nat.le_of_ble_eq_true rfl)) dX7_parts_5 (by decide) (fun r9 u H locs hp hw => ?_)
  obtain ⟨e9, e10⟩ := hp
  have hw : wH G A s.heap s L u H locs := hw
  rw [e10] at hw
  cases hsp : spB z
  · skip
    rw [hsp] at e9
    subst e9
    refine w_ti (y := nI 0) rfl ?_
    refine lv_if_ne (tgt := 21) hx hb dX7_parts_8 (by decide) (fun h => absurd (by decide) h) (fun _ => ?_)
    exact w_throwS (text := "no prime from 2 to 97") hx hb hl0 hown hts fit_IA fitn_2 uw_classLink_RX7_109_nIA uw_initialized_nIA (by decide +kernel) at_IA an_IA ot_IA hX hw (hl.1.trans hml.symm) dX7_parts_11 dX7_parts_14 dX7_parts_15 dX7_parts_17 dX7_parts_20 hnt (by decide) (by decide) (by decide) (by decide) hlocks (⟨Or.inr ⟨rfl, hinj, rfl⟩, ho0⟩) (by decide) (by decide)
  · skip
    rw [hsp] at e9
    subst e9
    refine w_ti (y := nI 1) rfl ?_
    refine lv_if_ne (tgt := 21) hx hb dX7_parts_8 (by decide) (fun _ => ?_) (fun h => absurd h (by decide))
    refine lv_aload_n hx hb dX7_parts_21 rfl (lv_at hl 0 rfl) ?_
    refine lv_iload_n hx hb dX7_parts_22 rfl (lv_at hl 1 rfl) ?_
    refine lv_aload_n hx hb dX7_parts_23 rfl (lv_at hl 0 rfl) ?_
    refine w_get (C := RX7) (T := TX7) (N := 15) (ci := 7) (ref := "LiftFactors") (v := .ref b1) hx hb hts inX7_u hown hw hxL hxo rfl 5 (by decide) u_102 rfl hfs5 dX7_parts_24 ?_
    refine w_callVv (lf := fun g => (L, g)) (As := [.int (nI j), .ref b1]) (rest := []) cx.fix hw (c_X7_load l G L f _ x b1 co j fs cr0 cr (fun _ _ => 0 : Nat → Nat → Int32) r1 hxL hxo hfs0 hco hcoL hcr hcrL hcv h1L hb1 hj) hxL hxo rfl rfl (w_cV 2 hts u_103 u_104 u_105 u_106 u_107 rfl rfl (by decide) (by decide)) hl.1 rfl (lv_room (Nat.le_of_ble_eq_true rfl)) dX7_parts_27 (by decide) (fun u H locs hp hw => ?_)
    have hw : wH G A s.heap s L u H locs := hw
    rw [hp] at hw
    obtain ⟨f1, hf1⟩ : ∃ g, g = va_up f b1 (eJ G 11 (prL (fun k => ((fun _ _ => 0 : Nat → Nat → Int32) j k).toInt64) r1 11)) := ⟨_, rfl⟩
    rw [← hf1] at hw
    have h1_x : f1 x = eO 7 fs := by rw [hf1, va_up_ne _ _ n_x_b1]; exact hxo
    have h1_b1 : f1 b1 = eJ G 11 (prL (fun k => ((fun _ _ => 0 : Nat → Nat → Int32) j k).toInt64) r1 11) := by rw [hf1]; exact va_up_eq _ _ _
    have h1_b2 : f1 b2 = eJ G 11 r2 := by rw [hf1, va_up_ne _ _ n_b2_b1]; exact hb2
    have h1_b3 : f1 b3 = eJ G 11 r3 := by rw [hf1, va_up_ne _ _ n_b3_b1]; exact hb3
    have h1_b4 : f1 b4 = eJ G 21 r4 := by rw [hf1, va_up_ne _ _ n_b4_b1]; exact hb4
    have h1_co : f1 co = eII G 80 cr0 := by rw [hf1, va_up_ne _ _ n_co_b1]; exact hco
    have h1_o3 : f1 o3 = eO 1 fs3 := by rw [hf1, va_up_ne _ _ n_o3_b1]; exact ho3
    have h1_o6 : f1 o6 = eO 5 fs6 := by rw [hf1, va_up_ne _ _ n_o6_b1]; exact ho6
    have hcv1 : ∀ j, j < 80 → f1 (cr j) = eI G 11 (fun _ => 0) := fun j hj => by rw [hf1, va_up_ne _ _ (hncr_b1 j hj)]; exact hcv j hj
    have ho1 : ∀ q : Nat, ¬ own q → f1 q = f q := fun q hq => (show f1 q = f q from by rw [hf1]; exact va_up_ne _ _ (fun h9 => hq (by rw [h9]; exact ow_b1))).trans (ho0 q hq)
    refine lv_aload_n hx hb dX7_parts_30 rfl (lv_at hl 0 rfl) ?_
    refine w_get (C := RX7) (T := TX7) (N := 15) (ci := 7) (ref := "LiftFactors") (v := .ref b1) hx hb hts inX7_u hown hw hxL h1_x rfl 5 (by decide) u_102 rfl hfs5 dX7_parts_31 ?_
    refine w_callSi (lf := fun g => (L, g)) (As := [.ref b1]) (rest := []) cx.fix hw (c_X5_degree l G L f1 _ b1 11 (prL (fun k => ((fun _ _ => 0 : Nat → Nat → Int32) j k).toInt64) r1 11) h1L h1_b1 (by decide)) (w_cS 1 hts u_108 u_8 u_9 u_10 rfl rfl (by decide) (by decide)) hl.1 rfl (lv_room (Nat.le_of_ble_eq_true rfl)) dX7_parts_34 (by decide) (fun r9 u H locs hp hw => ?_)
    obtain ⟨e9, e10⟩ := hp
    have hw : wH G A s.heap s L u H locs := hw
    rw [e10] at hw
    rw [z_load r1 j] at e9
    subst e9
    refine lv_istore_n (lv' := [(3, .int (nI 0 - nI 1)), (0, .ref x), (1, .int (nI j)), (2, .int z)]) hx hb dX7_parts_37 rfl hl (by decide) rfl (fun ls hl => ?_)
    refine lv_iload_n hx hb dX7_parts_38 rfl (lv_at hl 0 rfl) ?_
    refine lv_if_lt (tgt := 56) hx hb dX7_parts_39 (by decide) (fun _ => ?_) (fun h => absurd (by decide) h)
    refine lv_iconst (v := (-1)) hx hb dX7_parts_56 (by decide) ?_
    refine vx_ret ?_
    refine W.widen (k := 2) (n := 12) (by decide) (by decide) ?_
    exact w_iret (lf := fun g => (L, g)) hx hb hr hlocks f1 hw (⟨⟨by rw [hinj]; rfl, rfl⟩, ho1⟩) dX7_parts_57
