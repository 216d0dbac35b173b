theorem u_98 : Cond.methodLink RX7 102 yX7_requirePolynomial ∈ uU := uU_in (by decide +kernel) (by decide +kernel)
theorem u_99 : Cond.static yX7_requirePolynomial ∈ uU := uU_in (by decide +kernel) (by decide +kernel)
theorem u_100 : Cond.initialized yX7_requirePolynomial.cls ∈ uU := uU_in (by decide +kernel) (by decide +kernel)
theorem u_101 : Cond.code yX7_requirePolynomial cX7_requirePolynomial 1 none ∈ uU := uU_in (by decide +kernel) (by decide +kernel)
theorem u_102 : Cond.fieldLink RX7 28 "LiftFactors" "first" "[J" ∈ uU := uU_in (by decide +kernel) (by decide +kernel)
theorem u_103 : Cond.methodLink RX7 126 yX7_load ∈ uU := uU_in (by decide +kernel) (by decide +kernel)
theorem u_104 : Cond.instanceMethod yX7_load ∈ uU := uU_in (by decide +kernel) (by decide +kernel)
theorem u_105 : Cond.selects yX7_load.cls yX7_load yX7_load ∈ uU := uU_in (by decide +kernel) (by decide +kernel)
theorem u_106 : Cond.initialized yX7_load.cls ∈ uU := uU_in (by decide +kernel) (by decide +kernel)
theorem u_107 : Cond.code yX7_load cX7_load 4 none ∈ uU := uU_in (by decide +kernel) (by decide +kernel)
theorem u_108 : Cond.methodLink RX7 130 yX5_degree ∈ uU := uU_in (by decide +kernel) (by decide +kernel)
theorem u_109 : Cond.methodLink RX7 176 yX5_signedContent ∈ uU := uU_in (by decide +kernel) (by decide +kernel)
theorem u_110 : Cond.methodLink RX7 173 yX7_requireFactor ∈ uU := uU_in (by decide +kernel) (by decide +kernel)
theorem u_111 : Cond.instanceMethod yX7_requireFactor ∈ uU := uU_in (by decide +kernel) (by decide +kernel)
theorem u_112 : Cond.selects yX7_requireFactor.cls yX7_requireFactor yX7_requireFactor ∈ uU := uU_in (by decide +kernel) (by decide +kernel)
theorem u_113 : Cond.initialized yX7_requireFactor.cls ∈ uU := uU_in (by decide +kernel) (by decide +kernel)
theorem u_114 : Cond.code yX7_requireFactor cX7_requireFactor 2 none ∈ uU := uU_in (by decide +kernel) (by decide +kernel)
/-- a fresh object of the class; own: the addresses that its calls may change -/
def cZ (G : gG) (L : List Nat) (f : Nat → va_E) (x : Nat) (own : Nat → Prop) : Prop := ∃ (fs fs6 fs3 : List Value) (co b1 b2 b3 b4 o3 o6 : Nat) (cr0 : Nat → Option Nat) (cr : Nat → Nat) (r1 r2 r3 r4 : Nat → Int64),
  x ∈ L ∧ f x = eO 7 fs ∧ fs.length = 15 ∧ fs[0]? = some (.ref co) ∧ fs[1]? = some (.int (nI 0)) ∧ fs[4]? = some (.int (nI 0)) ∧ fs[5]? = some (.ref b1) ∧ fs[6]? = some (.ref b2) ∧ fs[7]? = some (.ref b3) ∧ fs[8]? = some (.ref b4) ∧ fs[11]? = some (.ref o3) ∧ fs[14]? = some (.ref o6) ∧
  co ∈ L ∧ f co = eII G 80 cr0 ∧ (∀ j, j < 80 → cr0 j = some (cr j)) ∧ (∀ j, j < 80 → cr j ∈ L) ∧ (∀ j, j < 80 → f (cr j) = eI G 11 (fun _ => 0)) ∧
  b1 ∈ L ∧ f b1 = eJ G 11 r1 ∧ b2 ∈ L ∧ f b2 = eJ G 11 r2 ∧ b3 ∈ L ∧ f b3 = eJ G 11 r3 ∧ b4 ∈ L ∧ f b4 = eJ G 21 r4 ∧ b1 ≠ b2 ∧ b1 ≠ b3 ∧ b2 ≠ b3 ∧
  o3 ∈ L ∧ f o3 = eO 1 fs3 ∧ o6 ∈ L ∧ f o6 = eO 5 fs6 ∧ fs6.length = 5 ∧
  own x ∧ own b1 ∧ own b2 ∧ own b3 ∧ own b4 ∧ own o6 ∧ ∀ j, j < 80 → own (cr j)
def cO (own : Nat → Prop) (f g : Nat → va_E) : Prop := ∀ q : Nat, ¬ own q → g q = f q
theorem z_load (r : Nat → Int64) (j : Nat) : dgp (prL (fun k => ((fun _ _ => 0 : Nat → Nat → Int32) j k).toInt64) r 11) 11 = 0 := dgp_0 (fun k hk => by rw [show prL (fun k => ((fun _ _ => 0 : Nat → Nat → Int32) j k).toInt64) r 11 k = ((0 : Int32)).toInt64 from if_pos hk]; rfl)
set_option maxRecDepth 100000 in
set_option maxHeartbeats 4000000 in
theorem z_X7_count (l : Launch) (G : gG) (L : List Nat) (f : Nat → va_E) (sz : Nat) (x : Nat) (own : Nat → Prop) (hz : cZ G L f x own)  :
    Met l yX7_count (uW yX7_count cX7_count 1 (some .int)) { frames := 0, cells := 0, slots := 0, locals := 0 } (wIn G [.ref x] L f sz) (va_Qi (fun (r9 : Int32) (g : Nat → va_E) => r9 = nI 0 ∧ g = f) (fun g => wAt G (wA L f sz) L g) (wA L f sz)) 0 0 (wA L f sz) := by
  refine wEnter (by decide) (Nat.le_of_ble_eq_true rfl) ?_
  intro p e s m below meth c ls cx hinit hl hsz hw
  obtain ⟨hx, hb, hr, hml, hown, hts, hlocks⟩ := id cx
  have hown : s.vm.findClass RX7 = some m.cls := hown
  have hl : lv_has ls 1 [(0, .ref x)] := hl
  generalize wA L f sz = A at hw ⊢
  obtain ⟨fs, fs6, fs3, co, b1, b2, b3, b4, o3, o6, cr0, cr, r1, r2, r3, r4, hxL, hxo, hfl, hfs0, hfs1, hfs4, hfs5, hfs6, hfs7, hfs8, hfs11, hfs14, hcoL, hco, hcr, hcrL, hcv, h1L, hb1, h2L, hb2, h3L, hb3, h4L, hb4, n12, n13, n23, ho3L, ho3, ho6L, ho6, hfl6, ow_x, ow_b1, ow_b2, ow_b3, ow_b4, ow_o6, ow_cr⟩ := hz
  have n_x_b1 : x ≠ b1 := ne_E hb1 hxo (by simp)
  have n_x_b2 : x ≠ b2 := ne_E hb2 hxo (by simp)
  have n_x_b3 : x ≠ b3 := ne_E hb3 hxo (by simp)
  have n_x_b4 : x ≠ b4 := ne_E hb4 hxo (by simp)
  have n_x_co : x ≠ co := ne_E hco hxo (by simp)
  have n_x_o3 : x ≠ o3 := ne_E ho3 hxo (by simp)
  have n_x_o6 : x ≠ o6 := ne_E ho6 hxo (by simp)
  have n_b1_x : b1 ≠ x := ne_E hxo hb1 (by simp)
  have n_b1_b2 : b1 ≠ b2 := n12
  have n_b1_b3 : b1 ≠ b3 := n13
  have n_b1_b4 : b1 ≠ b4 := ne_E hb4 hb1 (by simp)
  have n_b1_co : b1 ≠ co := ne_E hco hb1 (by simp)
  have n_b1_o3 : b1 ≠ o3 := ne_E ho3 hb1 (by simp)
  have n_b1_o6 : b1 ≠ o6 := ne_E ho6 hb1 (by simp)
  have n_b2_x : b2 ≠ x := ne_E hxo hb2 (by simp)
  have n_b2_b1 : b2 ≠ b1 := (n12).symm
  have n_b2_b3 : b2 ≠ b3 := n23
  have n_b2_b4 : b2 ≠ b4 := ne_E hb4 hb2 (by simp)
  have n_b2_co : b2 ≠ co := ne_E hco hb2 (by simp)
  have n_b2_o3 : b2 ≠ o3 := ne_E ho3 hb2 (by simp)
  have n_b2_o6 : b2 ≠ o6 := ne_E ho6 hb2 (by simp)
  have n_b3_x : b3 ≠ x := ne_E hxo hb3 (by simp)
  have n_b3_b1 : b3 ≠ b1 := (n13).symm
  have n_b3_b2 : b3 ≠ b2 := (n23).symm
  have n_b3_b4 : b3 ≠ b4 := ne_E hb4 hb3 (by simp)
  have n_b3_co : b3 ≠ co := ne_E hco hb3 (by simp)
  have n_b3_o3 : b3 ≠ o3 := ne_E ho3 hb3 (by simp)
  have n_b3_o6 : b3 ≠ o6 := ne_E ho6 hb3 (by simp)
  have n_b4_x : b4 ≠ x := ne_E hxo hb4 (by simp)
  have n_b4_b1 : b4 ≠ b1 := ne_E hb1 hb4 (by simp)
  have n_b4_b2 : b4 ≠ b2 := ne_E hb2 hb4 (by simp)
  have n_b4_b3 : b4 ≠ b3 := ne_E hb3 hb4 (by simp)
  have n_b4_co : b4 ≠ co := ne_E hco hb4 (by simp)
  have n_b4_o3 : b4 ≠ o3 := ne_E ho3 hb4 (by simp)
  have n_b4_o6 : b4 ≠ o6 := ne_E ho6 hb4 (by simp)
  have n_co_x : co ≠ x := ne_E hxo hco (by simp)
  have n_co_b1 : co ≠ b1 := ne_E hb1 hco (by simp)
  have n_co_b2 : co ≠ b2 := ne_E hb2 hco (by simp)
  have n_co_b3 : co ≠ b3 := ne_E hb3 hco (by simp)
  have n_co_b4 : co ≠ b4 := ne_E hb4 hco (by simp)
  have n_co_o3 : co ≠ o3 := ne_E ho3 hco (by simp)
  have n_co_o6 : co ≠ o6 := ne_E ho6 hco (by simp)
  have n_o3_x : o3 ≠ x := ne_E hxo ho3 (by simp)
  have n_o3_b1 : o3 ≠ b1 := ne_E hb1 ho3 (by simp)
  have n_o3_b2 : o3 ≠ b2 := ne_E hb2 ho3 (by simp)
  have n_o3_b3 : o3 ≠ b3 := ne_E hb3 ho3 (by simp)
  have n_o3_b4 : o3 ≠ b4 := ne_E hb4 ho3 (by simp)
  have n_o3_co : o3 ≠ co := ne_E hco ho3 (by simp)
  have n_o3_o6 : o3 ≠ o6 := ne_E ho6 ho3 (by simp)
  have n_o6_x : o6 ≠ x := ne_E hxo ho6 (by simp)
  have n_o6_b1 : o6 ≠ b1 := ne_E hb1 ho6 (by simp)
  have n_o6_b2 : o6 ≠ b2 := ne_E hb2 ho6 (by simp)
  have n_o6_b3 : o6 ≠ b3 := ne_E hb3 ho6 (by simp)
  have n_o6_b4 : o6 ≠ b4 := ne_E hb4 ho6 (by simp)
  have n_o6_co : o6 ≠ co := ne_E hco ho6 (by simp)
  have n_o6_o3 : o6 ≠ o3 := ne_E ho3 ho6 (by simp)
  have ho0 : ∀ q : Nat, ¬ own q → f q = f q := fun q _ => rfl
  have hncr_x : ∀ j, j < 80 → cr j ≠ x := fun j hj => ne_E hxo (hcv j hj) (by simp)
  have hncr_b1 : ∀ j, j < 80 → cr j ≠ b1 := fun j hj => ne_E hb1 (hcv j hj) (by simp)
  have hncr_b2 : ∀ j, j < 80 → cr j ≠ b2 := fun j hj => ne_E hb2 (hcv j hj) (by simp)
  have hncr_b3 : ∀ j, j < 80 → cr j ≠ b3 := fun j hj => ne_E hb3 (hcv j hj) (by simp)
  have hncr_b4 : ∀ j, j < 80 → cr j ≠ b4 := fun j hj => ne_E hb4 (hcv j hj) (by simp)
  have hncr_o6 : ∀ j, j < 80 → cr j ≠ o6 := fun j hj => ne_E ho6 (hcv j hj) (by simp)
  refine lv_aload_n hx hb dX7_count_0 rfl (lv_at hl 0 rfl) ?_
  refine w_get (C := RX7) (T := TX7) (N := 15) (ci := 7) (ref := "LiftFactors") (v := .int (nI 0)) hx hb hts inX7_u hown hw hxL hxo rfl 1 (by decide) u_1 rfl hfs1 dX7_count_1 ?_
  exact w_iret (lf := fun g => (L, g)) hx hb hr hlocks f hw (⟨rfl, rfl⟩) dX7_count_4
set_option maxRecDepth 100000 in
set_option maxHeartbeats 4000000 in
theorem z_X7_run (l : Launch) (hl0 : l.stackTraces = false) (G : gG) (L : List Nat) (f : Nat → va_E) (sz : Nat) (x : Nat) (own : Nat → Prop) (hz : cZ G L f x own) (v : Int32) :
    vx_Met l yX7_run (uW yX7_run cX7_run 4 (some .int)) { frames := 8, cells := 1, slots := 6, locals := 115 } (wInX G [.ref x, .int v] L f sz) (va_Qi (fun (r9 : Int32) (g : Nat → va_E) => (inB v 80 = true ∧ r9 = -1) ∧ cO own f g) (fun g => wAt G (wA L f sz) L g) (wA L f sz)) (xX G (wA L f sz) L (fun E g => E = nAI ∧ inB v 80 = false ∧ cO own f g)) 1 6 (wA L f sz) := by
  refine wEnterX (by decide) (Nat.le_of_ble_eq_true rfl) ?_
  intro p e s m below meth c ls cx hnt hl hsz hw hX
  obtain ⟨hx, hb, hr, hml, hown, hts, hlocks⟩ := id cx
  have hown : s.vm.findClass RX7 = some m.cls := hown
  have hl : lv_has ls 4 [(0, .ref x), (1, .int v)] := hl
  generalize wA L f sz = A at hw hX ⊢
  obtain ⟨fs, fs6, fs3, co, b1, b2, b3, b4, o3, o6, cr0, cr, r1, r2, r3, r4, hxL, hxo, hfl, hfs0, hfs1, hfs4, hfs5, hfs6, hfs7, hfs8, hfs11, hfs14, hcoL, hco, hcr, hcrL, hcv, h1L, hb1, h2L, hb2, h3L, hb3, h4L, hb4, n12, n13, n23, ho3L, ho3, ho6L, ho6, hfl6, ow_x, ow_b1, ow_b2, ow_b3, ow_b4, ow_o6, ow_cr⟩ := hz
  have n_x_b1 : x ≠ b1 := ne_E hb1 hxo (by simp)
  have n_x_b2 : x ≠ b2 := ne_E hb2 hxo (by simp)
  have n_x_b3 : x ≠ b3 := ne_E hb3 hxo (by simp)
  have n_x_b4 : x ≠ b4 := ne_E hb4 hxo (by simp)
  have n_x_co : x ≠ co := ne_E hco hxo (by simp)
  have n_x_o3 : x ≠ o3 := ne_E ho3 hxo (by simp)
  have n_x_o6 : x ≠ o6 := ne_E ho6 hxo (by simp)
  have n_b1_x : b1 ≠ x := ne_E hxo hb1 (by simp)
  have n_b1_b2 : b1 ≠ b2 := n12
  have n_b1_b3 : b1 ≠ b3 := n13
  have n_b1_b4 : b1 ≠ b4 := ne_E hb4 hb1 (by simp)
  have n_b1_co : b1 ≠ co := ne_E hco hb1 (by simp)
  have n_b1_o3 : b1 ≠ o3 := ne_E ho3 hb1 (by simp)
  have n_b1_o6 : b1 ≠ o6 := ne_E ho6 hb1 (by simp)
  have n_b2_x : b2 ≠ x := ne_E hxo hb2 (by simp)
  have n_b2_b1 : b2 ≠ b1 := (n12).symm
  have n_b2_b3 : b2 ≠ b3 := n23
  have n_b2_b4 : b2 ≠ b4 := ne_E hb4 hb2 (by simp)
  have n_b2_co : b2 ≠ co := ne_E hco hb2 (by simp)
  have n_b2_o3 : b2 ≠ o3 := ne_E ho3 hb2 (by simp)
  have n_b2_o6 : b2 ≠ o6 := ne_E ho6 hb2 (by simp)
  have n_b3_x : b3 ≠ x := ne_E hxo hb3 (by simp)
  have n_b3_b1 : b3 ≠ b1 := (n13).symm
  have n_b3_b2 : b3 ≠ b2 := (n23).symm
  have n_b3_b4 : b3 ≠ b4 := ne_E hb4 hb3 (by simp)
  have n_b3_co : b3 ≠ co := ne_E hco hb3 (by simp)
  have n_b3_o3 : b3 ≠ o3 := ne_E ho3 hb3 (by simp)
  have n_b3_o6 : b3 ≠ o6 := ne_E ho6 hb3 (by simp)
  have n_b4_x : b4 ≠ x := ne_E hxo hb4 (by simp)
  have n_b4_b1 : b4 ≠ b1 := ne_E hb1 hb4 (by simp)
  have n_b4_b2 : b4 ≠ b2 := ne_E hb2 hb4 (by simp)
  have n_b4_b3 : b4 ≠ b3 := ne_E hb3 hb4 (by simp)
  have n_b4_co : b4 ≠ co := ne_E hco hb4 (by simp)
  have n_b4_o3 : b4 ≠ o3 := ne_E ho3 hb4 (by simp)
  have n_b4_o6 : b4 ≠ o6 := ne_E ho6 hb4 (by simp)
  have n_co_x : co ≠ x := ne_E hxo hco (by simp)
  have n_co_b1 : co ≠ b1 := ne_E hb1 hco (by simp)
  have n_co_b2 : co ≠ b2 := ne_E hb2 hco (by simp)
  have n_co_b3 : co ≠ b3 := ne_E hb3 hco (by simp)
  have n_co_b4 : co ≠ b4 := ne_E hb4 hco (by simp)
  have n_co_o3 : co ≠ o3 := ne_E ho3 hco (by simp)
  have n_co_o6 : co ≠ o6 := ne_E ho6 hco (by simp)
  have n_o3_x : o3 ≠ x := ne_E hxo ho3 (by simp)
  have n_o3_b1 : o3 ≠ b1 := ne_E hb1 ho3 (by simp)
  have n_o3_b2 : o3 ≠ b2 := ne_E hb2 ho3 (by simp)
  have n_o3_b3 : o3 ≠ b3 := ne_E hb3 ho3 (by simp)
  have n_o3_b4 : o3 ≠ b4 := ne_E hb4 ho3 (by simp)
  have n_o3_co : o3 ≠ co := ne_E hco ho3 (by simp)
  have n_o3_o6 : o3 ≠ o6 := ne_E ho6 ho3 (by simp)
  have n_o6_x : o6 ≠ x := ne_E hxo ho6 (by simp)
  have n_o6_b1 : o6 ≠ b1 := ne_E hb1 ho6 (by simp)
  have n_o6_b2 : o6 ≠ b2 := ne_E hb2 ho6 (by simp)
  have n_o6_b3 : o6 ≠ b3 := ne_E hb3 ho6 (by simp)
  have n_o6_b4 : o6 ≠ b4 := ne_E hb4 ho6 (by simp)
  have n_o6_co : o6 ≠ co := ne_E hco ho6 (by simp)
  have n_o6_o3 : o6 ≠ o3 := ne_E ho3 ho6 (by simp)
  have ho0 : ∀ q : Nat, ¬ own q → f q = f q := fun q _ => rfl
  have hncr_x : ∀ j, j < 80 → cr j ≠ x := fun j hj => ne_E hxo (hcv j hj) (by simp)
  have hncr_b1 : ∀ j, j < 80 → cr j ≠ b1 := fun j hj => ne_E hb1 (hcv j hj) (by simp)
  have hncr_b2 : ∀ j, j < 80 → cr j ≠ b2 := fun j hj => ne_E hb2 (hcv j hj) (by simp)
  have hncr_b3 : ∀ j, j < 80 → cr j ≠ b3 := fun j hj => ne_E hb3 (hcv j hj) (by simp)
  have hncr_b4 : ∀ j, j < 80 → cr j ≠ b4 := fun j hj => ne_E hb4 (hcv j hj) (by simp)
  have hncr_o6 : ∀ j, j < 80 → cr j ≠ o6 := fun j hj => ne_E ho6 (hcv j hj) (by simp)
  refine lv_iload_n hx hb dX7_run_0 rfl (lv_at hl 1 rfl) ?_
  refine x_callSv (As := [.int v]) (rest := []) cx.fix hX hw (x_X7_requirePolynomial l hl0 G L f _ v) (w_cS 1 hts u_98 u_99 u_100 u_101 rfl rfl (by decide) (by decide)) hl.1 rfl (lv_room (Nat.le_of_ble_eq_true rfl)) dX7_run_1 (by decide) (fun E ce q9 u H locs hpe hw hce hcv hcl => ?_) (fun u H locs hp hw => ?_)
  · obtain ⟨hE, hno, e10⟩ := hpe
    rw [e10] at hw
    exact x_out hnt hlocks hw (⟨hE, hno, ho0⟩) hce hcv hcl (by decide) (by decide)
  obtain ⟨hinj, e10⟩ := hp
  rw [e10] at hw
  obtain ⟨j, hj, ejj⟩ := inB_of (by decide) hinj
  subst ejj
  refine lv_aload_n hx hb dX7_run_4 rfl (lv_at hl 0 rfl) ?_
  refine lv_iload_n hx hb dX7_run_5 rfl (lv_at hl 1 rfl) ?_
  refine lv_aload_n hx hb dX7_run_6 rfl (lv_at hl 0 rfl) ?_
  refine w_get (C := RX7) (T := TX7) (N := 15) (ci := 7) (ref := "LiftFactors") (v := .ref b1) hx hb hts inX7_u hown hw hxL hxo rfl 5 (by decide) u_102 rfl hfs5 dX7_run_7 ?_
  refine w_callVv (lf := fun g => (L, g)) (As := [.int (nI j), .ref b1]) (rest := []) cx.fix hw (c_X7_load l G L f _ x b1 co j fs cr0 cr (fun _ _ => 0 : Nat → Nat → Int32) r1 hxL hxo hfs0 hco hcoL hcr hcrL hcv h1L hb1 hj) hxL hxo rfl rfl (w_cV 2 hts u_103 u_104 u_105 u_106 u_107 rfl rfl (by decide) (by decide)) hl.1 rfl (lv_room (Nat.le_of_ble_eq_true rfl)) dX7_run_10 (by decide) (fun u H locs hp hw => ?_)
  have hw : wH G A s.heap s L u H locs := hw
  rw [hp] at hw
  obtain ⟨f1, hf1⟩ : ∃ g, g = va_up f b1 (eJ G 11 (prL (fun k => ((fun _ _ => 0 : Nat → Nat → Int32) j k).toInt64) r1 11)) := ⟨_, rfl⟩
  rw [← hf1] at hw
  have h1_x : f1 x = eO 7 fs := by rw [hf1, va_up_ne _ _ n_x_b1]; exact hxo
  have h1_b1 : f1 b1 = eJ G 11 (prL (fun k => ((fun _ _ => 0 : Nat → Nat → Int32) j k).toInt64) r1 11) := by rw [hf1]; exact va_up_eq _ _ _
  have h1_b2 : f1 b2 = eJ G 11 r2 := by rw [hf1, va_up_ne _ _ n_b2_b1]; exact hb2
  have h1_b3 : f1 b3 = eJ G 11 r3 := by rw [hf1, va_up_ne _ _ n_b3_b1]; exact hb3
  have h1_b4 : f1 b4 = eJ G 21 r4 := by rw [hf1, va_up_ne _ _ n_b4_b1]; exact hb4
  have h1_co : f1 co = eII G 80 cr0 := by rw [hf1, va_up_ne _ _ n_co_b1]; exact hco
  have h1_o3 : f1 o3 = eO 1 fs3 := by rw [hf1, va_up_ne _ _ n_o3_b1]; exact ho3
  have h1_o6 : f1 o6 = eO 5 fs6 := by rw [hf1, va_up_ne _ _ n_o6_b1]; exact ho6
  have hcv1 : ∀ j, j < 80 → f1 (cr j) = eI G 11 (fun _ => 0) := fun j hj => by rw [hf1, va_up_ne _ _ (hncr_b1 j hj)]; exact hcv j hj
  have ho1 : ∀ q : Nat, ¬ own q → f1 q = f q := fun q hq => (show f1 q = f q from by rw [hf1]; exact va_up_ne _ _ (fun h9 => hq (by rw [h9]; exact ow_b1))).trans (ho0 q hq)
  refine lv_aload_n hx hb dX7_run_13 rfl (lv_at hl 0 rfl) ?_
  refine w_get (C := RX7) (T := TX7) (N := 15) (ci := 7) (ref := "LiftFactors") (v := .ref b1) hx hb hts inX7_u hown hw hxL h1_x rfl 5 (by decide) u_102 rfl hfs5 dX7_run_14 ?_
  refine w_callSi (lf := fun g => (L, g)) (As := [.ref b1]) (rest := []) cx.fix hw (c_X5_degree l G L f1 _ b1 11 (prL (fun k => ((fun _ _ => 0 : Nat → Nat → Int32) j k).toInt64) r1 11) h1L h1_b1 (by decide)) (w_cS 1 hts u_108 u_8 u_9 u_10 rfl rfl (by decide) (by decide)) hl.1 rfl (lv_room (Nat.le_of_ble_eq_true rfl)) dX7_run_17 (by decide) (fun r9 u H locs hp hw => ?_)
  obtain ⟨e9, e10⟩ := hp
  have hw : wH G A s.heap s L u H locs := hw
  rw [e10] at hw
  rw [z_load r1 j] at e9
  subst e9
  refine lv_istore_n (lv' := [(2, .int (nI 0 - nI 1)), (0, .ref x), (1, .int (nI j))]) hx hb dX7_run_20 rfl hl (by decide) rfl (fun ls hl => ?_)
  refine lv_iload_n hx hb dX7_run_21 rfl (lv_at hl 0 rfl) ?_
  refine lv_bipush (v := nI 80) hx hb dX7_run_22 (by decide) ?_
  refine lv_aload_n hx hb dX7_run_24 rfl (lv_at hl 1 rfl) ?_
  refine w_get (C := RX7) (T := TX7) (N := 15) (ci := 7) (ref := "LiftFactors") (v := .int (nI 0)) hx hb hts inX7_u hown hw hxL h1_x rfl 1 (by decide) u_1 rfl hfs1 dX7_run_25 ?_
  refine lv_isub hx hb dX7_run_28 ?_
  refine lv_icmp_le (tgt := 42) hx hb dX7_run_29 (by decide) (fun _ => ?_) (fun h => absurd (by decide) h)
  refine lv_iload_n hx hb dX7_run_42 rfl (lv_at hl 0 rfl) ?_
  refine lv_if_ge (tgt := 48) hx hb dX7_run_43 (by decide) (fun h => absurd h (by decide)) (fun _ => ?_)
  refine lv_iconst (v := (-1)) hx hb dX7_run_46 (by decide) ?_
  refine vx_ret ?_
  refine W.widen (k := 1) (n := 6) (by decide) (by decide) ?_
  exact w_iret (lf := fun g => (L, g)) hx hb hr hlocks f1 hw (⟨⟨hinj, rfl⟩, ho1⟩) dX7_run_47
set_option maxRecDepth 100000 in
set_option maxHeartbeats 4000000 in
theorem z_X7_roots (l : Launch) (hl0 : l.stackTraces = false) (G : gG) (L : List Nat) (f : Nat → va_E) (sz : Nat) (x : Nat) (own : Nat → Prop) (hz : cZ G L f x own) (v : Int32) :
    vx_Met l yX7_roots (uW yX7_roots cX7_roots 2 (some .int)) { frames := 8, cells := 1, slots := 6, locals := 115 } (wInX G [.ref x, .int v] L f sz) (va_Qi (fun (r9 : Int32) (g : Nat → va_E) => (inB v 80 = true ∧ r9 = -1) ∧ cO own f g) (fun g => wAt G (wA L f sz) L g) (wA L f sz)) (xX G (wA L f sz) L (fun E g => E = nAI ∧ inB v 80 = false ∧ cO own f g)) 1 6 (wA L f sz) := by
  refine wEnterX (by decide) (Nat.le_of_ble_eq_true rfl) ?_
  intro p e s m below meth c ls cx hnt hl hsz hw hX
  obtain ⟨hx, hb, hr, hml, hown, hts, hlocks⟩ := id cx
  have hown : s.vm.findClass RX7 = some m.cls := hown
  have hl : lv_has ls 2 [(0, .ref x), (1, .int v)] := hl
  generalize wA L f sz = A at hw hX ⊢
  obtain ⟨fs, fs6, fs3, co, b1, b2, b3, b4, o3, o6, cr0, cr, r1, r2, r3, r4, hxL, hxo, hfl, hfs0, hfs1, hfs4, hfs5, hfs6, hfs7, hfs8, hfs11, hfs14, hcoL, hco, hcr, hcrL, hcv, h1L, hb1, h2L, hb2, h3L, hb3, h4L, hb4, n12, n13, n23, ho3L, ho3, ho6L, ho6, hfl6, ow_x, ow_b1, ow_b2, ow_b3, ow_b4, ow_o6, ow_cr⟩ := hz
  have n_x_b1 : x ≠ b1 := ne_E hb1 hxo (by simp)
  have n_x_b2 : x ≠ b2 := ne_E hb2 hxo (by simp)
  have n_x_b3 : x ≠ b3 := ne_E hb3 hxo (by simp)
  have n_x_b4 : x ≠ b4 := ne_E hb4 hxo (by simp)
  have n_x_co : x ≠ co := ne_E hco hxo (by simp)
  have n_x_o3 : x ≠ o3 := ne_E ho3 hxo (by simp)
  have n_x_o6 : x ≠ o6 := ne_E ho6 hxo (by simp)
  have n_b1_x : b1 ≠ x := ne_E hxo hb1 (by simp)
  have n_b1_b2 : b1 ≠ b2 := n12
  have n_b1_b3 : b1 ≠ b3 := n13
  have n_b1_b4 : b1 ≠ b4 := ne_E hb4 hb1 (by simp)
  have n_b1_co : b1 ≠ co := ne_E hco hb1 (by simp)
  have n_b1_o3 : b1 ≠ o3 := ne_E ho3 hb1 (by simp)
  have n_b1_o6 : b1 ≠ o6 := ne_E ho6 hb1 (by simp)
  have n_b2_x : b2 ≠ x := ne_E hxo hb2 (by simp)
  have n_b2_b1 : b2 ≠ b1 := (n12).symm
  have n_b2_b3 : b2 ≠ b3 := n23
  have n_b2_b4 : b2 ≠ b4 := ne_E hb4 hb2 (by simp)
  have n_b2_co : b2 ≠ co := ne_E hco hb2 (by simp)
  have n_b2_o3 : b2 ≠ o3 := ne_E ho3 hb2 (by simp)
  have n_b2_o6 : b2 ≠ o6 := ne_E ho6 hb2 (by simp)
  have n_b3_x : b3 ≠ x := ne_E hxo hb3 (by simp)
  have n_b3_b1 : b3 ≠ b1 := (n13).symm
  have n_b3_b2 : b3 ≠ b2 := (n23).symm
  have n_b3_b4 : b3 ≠ b4 := ne_E hb4 hb3 (by simp)
  have n_b3_co : b3 ≠ co := ne_E hco hb3 (by simp)
  have n_b3_o3 : b3 ≠ o3 := ne_E ho3 hb3 (by simp)
  have n_b3_o6 : b3 ≠ o6 := ne_E ho6 hb3 (by simp)
  have n_b4_x : b4 ≠ x := ne_E hxo hb4 (by simp)
  have n_b4_b1 : b4 ≠ b1 := ne_E hb1 hb4 (by simp)
  have n_b4_b2 : b4 ≠ b2 := ne_E hb2 hb4 (by simp)
  have n_b4_b3 : b4 ≠ b3 := ne_E hb3 hb4 (by simp)
  have n_b4_co : b4 ≠ co := ne_E hco hb4 (by simp)
  have n_b4_o3 : b4 ≠ o3 := ne_E ho3 hb4 (by simp)
  have n_b4_o6 : b4 ≠ o6 := ne_E ho6 hb4 (by simp)
  have n_co_x : co ≠ x := ne_E hxo hco (by simp)
  have n_co_b1 : co ≠ b1 := ne_E hb1 hco (by simp)
  have n_co_b2 : co ≠ b2 := ne_E hb2 hco (by simp)
  have n_co_b3 : co ≠ b3 := ne_E hb3 hco (by simp)
  have n_co_b4 : co ≠ b4 := ne_E hb4 hco (by simp)
  have n_co_o3 : co ≠ o3 := ne_E ho3 hco (by simp)
  have n_co_o6 : co ≠ o6 := ne_E ho6 hco (by simp)
  have n_o3_x : o3 ≠ x := ne_E hxo ho3 (by simp)
  have n_o3_b1 : o3 ≠ b1 := ne_E hb1 ho3 (by simp)
  have n_o3_b2 : o3 ≠ b2 := ne_E hb2 ho3 (by simp)
  have n_o3_b3 : o3 ≠ b3 := ne_E hb3 ho3 (by simp)
  have n_o3_b4 : o3 ≠ b4 := ne_E hb4 ho3 (by simp)
  have n_o3_co : o3 ≠ co := ne_E hco ho3 (by simp)
  have n_o3_o6 : o3 ≠ o6 := ne_E ho6 ho3 (by simp)
  have n_o6_x : o6 ≠ x := ne_E hxo ho6 (by simp)
  have n_o6_b1 : o6 ≠ b1 := ne_E hb1 ho6 (by simp)
  have n_o6_b2 : o6 ≠ b2 := ne_E hb2 ho6 (by simp)
  have n_o6_b3 : o6 ≠ b3 := ne_E hb3 ho6 (by simp)
  have n_o6_b4 : o6 ≠ b4 := ne_E hb4 ho6 (by simp)
  have n_o6_co : o6 ≠ co := ne_E hco ho6 (by simp)
  have n_o6_o3 : o6 ≠ o3 := ne_E ho3 ho6 (by simp)
  have ho0 : ∀ q : Nat, ¬ own q → f q = f q := fun q _ => rfl
  have hncr_x : ∀ j, j < 80 → cr j ≠ x := fun j hj => ne_E hxo (hcv j hj) (by simp)
  have hncr_b1 : ∀ j, j < 80 → cr j ≠ b1 := fun j hj => ne_E hb1 (hcv j hj) (by simp)
  have hncr_b2 : ∀ j, j < 80 → cr j ≠ b2 := fun j hj => ne_E hb2 (hcv j hj) (by simp)
  have hncr_b3 : ∀ j, j < 80 → cr j ≠ b3 := fun j hj => ne_E hb3 (hcv j hj) (by simp)
  have hncr_b4 : ∀ j, j < 80 → cr j ≠ b4 := fun j hj => ne_E hb4 (hcv j hj) (by simp)
  have hncr_o6 : ∀ j, j < 80 → cr j ≠ o6 := fun j hj => ne_E ho6 (hcv j hj) (by simp)
  refine lv_iload_n hx hb dX7_roots_0 rfl (lv_at hl 1 rfl) ?_
  refine x_callSv (As := [.int v]) (rest := []) cx.fix hX hw (x_X7_requirePolynomial l hl0 G L f _ v) (w_cS 1 hts u_98 u_99 u_100 u_101 rfl rfl (by decide) (by decide)) hl.1 rfl (lv_room (Nat.le_of_ble_eq_true rfl)) dX7_roots_1 (by decide) (fun E ce q9 u H locs hpe hw hce hcv hcl => ?_) (fun u H locs hp hw => ?_)
  · obtain ⟨hE, hno, e10⟩ := hpe
    rw [e10] at hw
    exact x_out hnt hlocks hw (⟨hE, hno, ho0⟩) hce hcv hcl (by decide) (by decide)
  obtain ⟨hinj, e10⟩ := hp
  rw [e10] at hw
  obtain ⟨j, hj, ejj⟩ := inB_of (by decide) hinj
  subst ejj
  refine lv_aload_n hx hb dX7_roots_4 rfl (lv_at hl 0 rfl) ?_
  refine lv_iload_n hx hb dX7_roots_5 rfl (lv_at hl 1 rfl) ?_
  refine lv_aload_n hx hb dX7_roots_6 rfl (lv_at hl 0 rfl) ?_
  refine w_get (C := RX7) (T := TX7) (N := 15) (ci := 7) (ref := "LiftFactors") (v := .ref b1) hx hb hts inX7_u hown hw hxL hxo rfl 5 (by decide) u_102 rfl hfs5 dX7_roots_7 ?_
  refine w_callVv (lf := fun g => (L, g)) (As := [.int (nI j), .ref b1]) (rest := []) cx.fix hw (c_X7_load l G L f _ x b1 co j fs cr0 cr (fun _ _ => 0 : Nat → Nat → Int32) r1 hxL hxo hfs0 hco hcoL hcr hcrL hcv h1L hb1 hj) hxL hxo rfl rfl (w_cV 2 hts u_103 u_104 u_105 u_106 u_107 rfl rfl (by decide) (by decide)) hl.1 rfl (lv_room (Nat.le_of_ble_eq_true rfl)) dX7_roots_10 (by decide) (fun u H locs hp hw => ?_)
  have hw : wH G A s.heap s L u H locs := hw
  rw [hp] at hw
  obtain ⟨f1, hf1⟩ : ∃ g, g = va_up f b1 (eJ G 11 (prL (fun k => ((fun _ _ => 0 : Nat → Nat → Int32) j k).toInt64) r1 11)) := ⟨_, rfl⟩
  rw [← hf1] at hw
  have h1_x : f1 x = eO 7 fs := by rw [hf1, va_up_ne _ _ n_x_b1]; exact hxo
  have h1_b1 : f1 b1 = eJ G 11 (prL (fun k => ((fun _ _ => 0 : Nat → Nat → Int32) j k).toInt64) r1 11) := by rw [hf1]; exact va_up_eq _ _ _
  have h1_b2 : f1 b2 = eJ G 11 r2 := by rw [hf1, va_up_ne _ _ n_b2_b1]; exact hb2
  have h1_b3 : f1 b3 = eJ G 11 r3 := by rw [hf1, va_up_ne _ _ n_b3_b1]; exact hb3
  have h1_b4 : f1 b4 = eJ G 21 r4 := by rw [hf1, va_up_ne _ _ n_b4_b1]; exact hb4
  have h1_co : f1 co = eII G 80 cr0 := by rw [hf1, va_up_ne _ _ n_co_b1]; exact hco
  have h1_o3 : f1 o3 = eO 1 fs3 := by rw [hf1, va_up_ne _ _ n_o3_b1]; exact ho3
  have h1_o6 : f1 o6 = eO 5 fs6 := by rw [hf1, va_up_ne _ _ n_o6_b1]; exact ho6
  have hcv1 : ∀ j, j < 80 → f1 (cr j) = eI G 11 (fun _ => 0) := fun j hj => by rw [hf1, va_up_ne _ _ (hncr_b1 j hj)]; exact hcv j hj
  have ho1 : ∀ q : Nat, ¬ own q → f1 q = f q := fun q hq => (show f1 q = f q from by rw [hf1]; exact va_up_ne _ _ (fun h9 => hq (by rw [h9]; exact ow_b1))).trans (ho0 q hq)
  refine lv_aload_n hx hb dX7_roots_13 rfl (lv_at hl 0 rfl) ?_
  refine w_get (C := RX7) (T := TX7) (N := 15) (ci := 7) (ref := "LiftFactors") (v := .ref b1) hx hb hts inX7_u hown hw hxL h1_x rfl 5 (by decide) u_102 rfl hfs5 dX7_roots_14 ?_
  refine w_callSi (lf := fun g => (L, g)) (As := [.ref b1]) (rest := []) cx.fix hw (c_X5_degree l G L f1 _ b1 11 (prL (fun k => ((fun _ _ => 0 : Nat → Nat → Int32) j k).toInt64) r1 11) h1L h1_b1 (by decide)) (w_cS 1 hts u_108 u_8 u_9 u_10 rfl rfl (by decide) (by decide)) hl.1 rfl (lv_room (Nat.le_of_ble_eq_true rfl)) dX7_roots_17 (by decide) (fun r9 u H locs hp hw => ?_)
  obtain ⟨e9, e10⟩ := hp
  have hw : wH G A s.heap s L u H locs := hw
  rw [e10] at hw
  rw [z_load r1 j] at e9
  subst e9
  refine lv_if_ge (tgt := 25) hx hb dX7_roots_20 (by decide) (fun h => absurd h (by decide)) (fun _ => ?_)
  refine lv_iconst (v := (-1)) hx hb dX7_roots_23 (by decide) ?_
  refine vx_ret ?_
  refine W.widen (k := 1) (n := 6) (by decide) (by decide) ?_
  exact w_iret (lf := fun g => (L, g)) hx hb hr hlocks f1 hw (⟨⟨hinj, rfl⟩, ho1⟩) dX7_roots_24
set_option maxRecDepth 100000 in
set_option maxHeartbeats 4000000 in
theorem z_X7_squareFree (l : Launch) (hl0 : l.stackTraces = false) (G : gG) (L : List Nat) (f : Nat → va_E) (sz : Nat) (x : Nat) (own : Nat → Prop) (hz : cZ G L f x own) (v : Int32) :
    vx_Met l yX7_squareFree (uW yX7_squareFree cX7_squareFree 2 (some .boolean)) { frames := 8, cells := 1, slots := 6, locals := 115 } (wInX G [.ref x, .int v] L f sz) (va_Qi (fun (r9 : Int32) (g : Nat → va_E) => (inB v 80 = true ∧ r9 = nI 0) ∧ cO own f g) (fun g => wAt G (wA L f sz) L g) (wA L f sz)) (xX G (wA L f sz) L (fun E g => E = nAI ∧ inB v 80 = false ∧ cO own f g)) 1 6 (wA L f sz) := by
  refine wEnterX (by decide) (Nat.le_of_ble_eq_true rfl) ?_
  intro p e s m below meth c ls cx hnt hl hsz hw hX
  obtain ⟨hx, hb, hr, hml, hown, hts, hlocks⟩ := id cx
  have hown : s.vm.findClass RX7 = some m.cls := hown
  have hl : lv_has ls 2 [(0, .ref x), (1, .int v)] := hl
  generalize wA L f sz = A at hw hX ⊢
  obtain ⟨fs, fs6, fs3, co, b1, b2, b3, b4, o3, o6, cr0, cr, r1, r2, r3, r4, hxL, hxo, hfl, hfs0, hfs1, hfs4, hfs5, hfs6, hfs7, hfs8, hfs11, hfs14, hcoL, hco, hcr, hcrL, hcv, h1L, hb1, h2L, hb2, h3L, hb3, h4L, hb4, n12, n13, n23, ho3L, ho3, ho6L, ho6, hfl6, ow_x, ow_b1, ow_b2, ow_b3, ow_b4, ow_o6, ow_cr⟩ := hz
  have n_x_b1 : x ≠ b1 := ne_E hb1 hxo (by simp)
  have n_x_b2 : x ≠ b2 := ne_E hb2 hxo (by simp)
  have n_x_b3 : x ≠ b3 := ne_E hb3 hxo (by simp)
  have n_x_b4 : x ≠ b4 := ne_E hb4 hxo (by simp)
  have n_x_co : x ≠ co := ne_E hco hxo (by simp)
  have n_x_o3 : x ≠ o3 := ne_E ho3 hxo (by simp)
  have n_x_o6 : x ≠ o6 := ne_E ho6 hxo (by simp)
  have n_b1_x : b1 ≠ x := ne_E hxo hb1 (by simp)
  have n_b1_b2 : b1 ≠ b2 := n12
  have n_b1_b3 : b1 ≠ b3 := n13
  have n_b1_b4 : b1 ≠ b4 := ne_E hb4 hb1 (by simp)
  have n_b1_co : b1 ≠ co := ne_E hco hb1 (by simp)
  have n_b1_o3 : b1 ≠ o3 := ne_E ho3 hb1 (by simp)
  have n_b1_o6 : b1 ≠ o6 := ne_E ho6 hb1 (by simp)
  have n_b2_x : b2 ≠ x := ne_E hxo hb2 (by simp)
  have n_b2_b1 : b2 ≠ b1 := (n12).symm
  have n_b2_b3 : b2 ≠ b3 := n23
  have n_b2_b4 : b2 ≠ b4 := ne_E hb4 hb2 (by simp)
  have n_b2_co : b2 ≠ co := ne_E hco hb2 (by simp)
  have n_b2_o3 : b2 ≠ o3 := ne_E ho3 hb2 (by simp)
  have n_b2_o6 : b2 ≠ o6 := ne_E ho6 hb2 (by simp)
  have n_b3_x : b3 ≠ x := ne_E hxo hb3 (by simp)
  have n_b3_b1 : b3 ≠ b1 := (n13).symm
  have n_b3_b2 : b3 ≠ b2 := (n23).symm
  have n_b3_b4 : b3 ≠ b4 := ne_E hb4 hb3 (by simp)
  have n_b3_co : b3 ≠ co := ne_E hco hb3 (by simp)
  have n_b3_o3 : b3 ≠ o3 := ne_E ho3 hb3 (by simp)
  have n_b3_o6 : b3 ≠ o6 := ne_E ho6 hb3 (by simp)
  have n_b4_x : b4 ≠ x := ne_E hxo hb4 (by simp)
  have n_b4_b1 : b4 ≠ b1 := ne_E hb1 hb4 (by simp)
  have n_b4_b2 : b4 ≠ b2 := ne_E hb2 hb4 (by simp)
  have n_b4_b3 : b4 ≠ b3 := ne_E hb3 hb4 (by simp)
  have n_b4_co : b4 ≠ co := ne_E hco hb4 (by simp)
  have n_b4_o3 : b4 ≠ o3 := ne_E ho3 hb4 (by simp)
  have n_b4_o6 : b4 ≠ o6 := ne_E ho6 hb4 (by simp)
  have n_co_x : co ≠ x := ne_E hxo hco (by simp)
  have n_co_b1 : co ≠ b1 := ne_E hb1 hco (by simp)
  have n_co_b2 : co ≠ b2 := ne_E hb2 hco (by simp)
  have n_co_b3 : co ≠ b3 := ne_E hb3 hco (by simp)
  have n_co_b4 : co ≠ b4 := ne_E hb4 hco (by simp)
  have n_co_o3 : co ≠ o3 := ne_E ho3 hco (by simp)
  have n_co_o6 : co ≠ o6 := ne_E ho6 hco (by simp)
  have n_o3_x : o3 ≠ x := ne_E hxo ho3 (by simp)
  have n_o3_b1 : o3 ≠ b1 := ne_E hb1 ho3 (by simp)
  have n_o3_b2 : o3 ≠ b2 := ne_E hb2 ho3 (by simp)
  have n_o3_b3 : o3 ≠ b3 := ne_E hb3 ho3 (by simp)
  have n_o3_b4 : o3 ≠ b4 := ne_E hb4 ho3 (by simp)
  have n_o3_co : o3 ≠ co := ne_E hco ho3 (by simp)
  have n_o3_o6 : o3 ≠ o6 := ne_E ho6 ho3 (by simp)
  have n_o6_x : o6 ≠ x := ne_E hxo ho6 (by simp)
  have n_o6_b1 : o6 ≠ b1 := ne_E hb1 ho6 (by simp)
  have n_o6_b2 : o6 ≠ b2 := ne_E hb2 ho6 (by simp)
  have n_o6_b3 : o6 ≠ b3 := ne_E hb3 ho6 (by simp)
  have n_o6_b4 : o6 ≠ b4 := ne_E hb4 ho6 (by simp)
  have n_o6_co : o6 ≠ co := ne_E hco ho6 (by simp)
  have n_o6_o3 : o6 ≠ o3 := ne_E ho3 ho6 (by simp)
  have ho0 : ∀ q : Nat, ¬ own q → f q = f q := fun q _ => rfl
  have hncr_x : ∀ j, j < 80 → cr j ≠ x := fun j hj => ne_E hxo (hcv j hj) (by simp)
  have hncr_b1 : ∀ j, j < 80 → cr j ≠ b1 := fun j hj => ne_E hb1 (hcv j hj) (by simp)
  have hncr_b2 : ∀ j, j < 80 → cr j ≠ b2 := fun j hj => ne_E hb2 (hcv j hj) (by simp)
  have hncr_b3 : ∀ j, j < 80 → cr j ≠ b3 := fun j hj => ne_E hb3 (hcv j hj) (by simp)
  have hncr_b4 : ∀ j, j < 80 → cr j ≠ b4 := fun j hj => ne_E hb4 (hcv j hj) (by simp)
  have hncr_o6 : ∀ j, j < 80 → cr j ≠ o6 := fun j hj => ne_E ho6 (hcv j hj) (by simp)
  refine lv_iload_n hx hb dX7_squareFree_0 rfl (lv_at hl 1 rfl) ?_
  refine x_callSv (As := [.int v]) (rest := []) cx.fix hX hw (x_X7_requirePolynomial l hl0 G L f _ v) (w_cS 1 hts u_98 u_99 u_100 u_101 rfl rfl (by decide) (by decide)) hl.1 rfl (lv_room (Nat.le_of_ble_eq_true rfl)) dX7_squareFree_1 (by decide) (fun E ce q9 u H locs hpe hw hce hcv hcl => ?_) (fun u H locs hp hw => ?_)
  · obtain ⟨hE, hno, e10⟩ := hpe
    rw [e10] at hw
    exact x_out hnt hlocks hw (⟨hE, hno, ho0⟩) hce hcv hcl (by decide) (by decide)
  obtain ⟨hinj, e10⟩ := hp
  rw [e10] at hw
  obtain ⟨j, hj, ejj⟩ := inB_of (by decide) hinj
  subst ejj
  refine lv_aload_n hx hb dX7_squareFree_4 rfl (lv_at hl 0 rfl) ?_
  refine lv_iload_n hx hb dX7_squareFree_5 rfl (lv_at hl 1 rfl) ?_
  refine lv_aload_n hx hb dX7_squareFree_6 rfl (lv_at hl 0 rfl) ?_
  refine w_get (C := RX7) (T := TX7) (N := 15) (ci := 7) (ref := "LiftFactors") (v := .ref b1) hx hb hts inX7_u hown hw hxL hxo rfl 5 (by decide) u_102 rfl hfs5 dX7_squareFree_7 ?_
  refine w_callVv (lf := fun g => (L, g)) (As := [.int (nI j), .ref b1]) (rest := []) cx.fix hw (c_X7_load l G L f _ x b1 co j fs cr0 cr (fun _ _ => 0 : Nat → Nat → Int32) r1 hxL hxo hfs0 hco hcoL hcr hcrL hcv h1L hb1 hj) hxL hxo rfl rfl (w_cV 2 hts u_103 u_104 u_105 u_106 u_107 rfl rfl (by decide) (by decide)) hl.1 rfl (lv_room (Nat.le_of_ble_eq_true rfl)) dX7_squareFree_10 (by decide) (fun u H locs hp hw => ?_)
  have hw : wH G A s.heap s L u H locs := hw
  rw [hp] at hw
  obtain ⟨f1, hf1⟩ : ∃ g, g = va_up f b1 (eJ G 11 (prL (fun k => ((fun _ _ => 0 : Nat → Nat → Int32) j k).toInt64) r1 11)) := ⟨_, rfl⟩
  rw [← hf1] at hw
  have h1_x : f1 x = eO 7 fs := by rw [hf1, va_up_ne _ _ n_x_b1]; exact hxo
  have h1_b1 : f1 b1 = eJ G 11 (prL (fun k => ((fun _ _ => 0 : Nat → Nat → Int32) j k).toInt64) r1 11) := by rw [hf1]; exact va_up_eq _ _ _
  have h1_b2 : f1 b2 = eJ G 11 r2 := by rw [hf1, va_up_ne _ _ n_b2_b1]; exact hb2
  have h1_b3 : f1 b3 = eJ G 11 r3 := by rw [hf1, va_up_ne _ _ n_b3_b1]; exact hb3
  have h1_b4 : f1 b4 = eJ G 21 r4 := by rw [hf1, va_up_ne _ _ n_b4_b1]; exact hb4
  have h1_co : f1 co = eII G 80 cr0 := by rw [hf1, va_up_ne _ _ n_co_b1]; exact hco
  have h1_o3 : f1 o3 = eO 1 fs3 := by rw [hf1, va_up_ne _ _ n_o3_b1]; exact ho3
  have h1_o6 : f1 o6 = eO 5 fs6 := by rw [hf1, va_up_ne _ _ n_o6_b1]; exact ho6
  have hcv1 : ∀ j, j < 80 → f1 (cr j) = eI G 11 (fun _ => 0) := fun j hj => by rw [hf1, va_up_ne _ _ (hncr_b1 j hj)]; exact hcv j hj
  have ho1 : ∀ q : Nat, ¬ own q → f1 q = f q := fun q hq => (show f1 q = f q from by rw [hf1]; exact va_up_ne _ _ (fun h9 => hq (by rw [h9]; exact ow_b1))).trans (ho0 q hq)
  refine lv_aload_n hx hb dX7_squareFree_13 rfl (lv_at hl 0 rfl) ?_
  refine w_get (C := RX7) (T := TX7) (N := 15) (ci := 7) (ref := "LiftFactors") (v := .ref b1) hx hb hts inX7_u hown hw hxL h1_x rfl 5 (by decide) u_102 rfl hfs5 dX7_squareFree_14 ?_
  refine w_callSi (lf := fun g => (L, g)) (As := [.ref b1]) (rest := []) cx.fix hw (c_X5_degree l G L f1 _ b1 11 (prL (fun k => ((fun _ _ => 0 : Nat → Nat → Int32) j k).toInt64) r1 11) h1L h1_b1 (by decide)) (w_cS 1 hts u_108 u_8 u_9 u_10 rfl rfl (by decide) (by decide)) hl.1 rfl (lv_room (Nat.le_of_ble_eq_true rfl)) dX7_squareFree_17 (by decide) (fun r9 u H locs hp hw => ?_)
  obtain ⟨e9, e10⟩ := hp
  have hw : wH G A s.heap s L u H locs := hw
  rw [e10] at hw
  rw [z_load r1 j] at e9
  subst e9
  refine lv_if_ge (tgt := 25) hx hb dX7_squareFree_20 (by decide) (fun h => absurd h (by decide)) (fun _ => ?_)
  refine lv_iconst (v := nI 0) hx hb dX7_squareFree_23 (by decide) ?_
  refine vx_ret ?_
  refine W.widen (k := 1) (n := 6) (by decide) (by decide) ?_
  exact w_zret (lf := fun g => (L, g)) hx hb hr hlocks (by first | rfl | decide) f1 hw (⟨⟨hinj, rfl⟩, ho1⟩) dX7_squareFree_24
set_option maxRecDepth 100000 in
set_option maxHeartbeats 4000000 in
theorem z_X7_content (l : Launch) (hl0 : l.stackTraces = false) (G : gG) (L : List Nat) (f : Nat → va_E) (sz : Nat) (x : Nat) (own : Nat → Prop) (hz : cZ G L f x own) (v : Int32) :
    vx_Met l yX7_content (uW yX7_content cX7_content 2 (some .int)) { frames := 8, cells := 1, slots := 6, locals := 115 } (wInX G [.ref x, .int v] L f sz) (va_Qi (fun (r9 : Int32) (g : Nat → va_E) => (inB v 80 = true ∧ r9 = nI 0) ∧ cO own f g) (fun g => wAt G (wA L f sz) L g) (wA L f sz)) (xX G (wA L f sz) L (fun E g => E = nAI ∧ inB v 80 = false ∧ cO own f g)) 1 6 (wA L f sz) := by
  refine wEnterX (by decide) (Nat.le_of_ble_eq_true rfl) ?_
  intro p e s m below meth c ls cx hnt hl hsz hw hX
  obtain ⟨hx, hb, hr, hml, hown, hts, hlocks⟩ := id cx
  have hown : s.vm.findClass RX7 = some m.cls := hown
  have hl : lv_has ls 2 [(0, .ref x), (1, .int v)] := hl
  generalize wA L f sz = A at hw hX ⊢
  obtain ⟨fs, fs6, fs3, co, b1, b2, b3, b4, o3, o6, cr0, cr, r1, r2, r3, r4, hxL, hxo, hfl, hfs0, hfs1, hfs4, hfs5, hfs6, hfs7, hfs8, hfs11, hfs14, hcoL, hco, hcr, hcrL, hcv, h1L, hb1, h2L, hb2, h3L, hb3, h4L, hb4, n12, n13, n23, ho3L, ho3, ho6L, ho6, hfl6, ow_x, ow_b1, ow_b2, ow_b3, ow_b4, ow_o6, ow_cr⟩ := hz
  have n_x_b1 : x ≠ b1 := ne_E hb1 hxo (by simp)
  have n_x_b2 : x ≠ b2 := ne_E hb2 hxo (by simp)
  have n_x_b3 : x ≠ b3 := ne_E hb3 hxo (by simp)
  have n_x_b4 : x ≠ b4 := ne_E hb4 hxo (by simp)
  have n_x_co : x ≠ co := ne_E hco hxo (by simp)
  have n_x_o3 : x ≠ o3 := ne_E ho3 hxo (by simp)
  have n_x_o6 : x ≠ o6 := ne_E ho6 hxo (by simp)
  have n_b1_x : b1 ≠ x := ne_E hxo hb1 (by simp)
  have n_b1_b2 : b1 ≠ b2 := n12
  have n_b1_b3 : b1 ≠ b3 := n13
  have n_b1_b4 : b1 ≠ b4 := ne_E hb4 hb1 (by simp)
  have n_b1_co : b1 ≠ co := ne_E hco hb1 (by simp)
  have n_b1_o3 : b1 ≠ o3 := ne_E ho3 hb1 (by simp)
  have n_b1_o6 : b1 ≠ o6 := ne_E ho6 hb1 (by simp)
  have n_b2_x : b2 ≠ x := ne_E hxo hb2 (by simp)
  have n_b2_b1 : b2 ≠ b1 := (n12).symm
  have n_b2_b3 : b2 ≠ b3 := n23
  have n_b2_b4 : b2 ≠ b4 := ne_E hb4 hb2 (by simp)
  have n_b2_co : b2 ≠ co := ne_E hco hb2 (by simp)
  have n_b2_o3 : b2 ≠ o3 := ne_E ho3 hb2 (by simp)
  have n_b2_o6 : b2 ≠ o6 := ne_E ho6 hb2 (by simp)
  have n_b3_x : b3 ≠ x := ne_E hxo hb3 (by simp)
  have n_b3_b1 : b3 ≠ b1 := (n13).symm
  have n_b3_b2 : b3 ≠ b2 := (n23).symm
  have n_b3_b4 : b3 ≠ b4 := ne_E hb4 hb3 (by simp)
  have n_b3_co : b3 ≠ co := ne_E hco hb3 (by simp)
  have n_b3_o3 : b3 ≠ o3 := ne_E ho3 hb3 (by simp)
  have n_b3_o6 : b3 ≠ o6 := ne_E ho6 hb3 (by simp)
  have n_b4_x : b4 ≠ x := ne_E hxo hb4 (by simp)
  have n_b4_b1 : b4 ≠ b1 := ne_E hb1 hb4 (by simp)
  have n_b4_b2 : b4 ≠ b2 := ne_E hb2 hb4 (by simp)
  have n_b4_b3 : b4 ≠ b3 := ne_E hb3 hb4 (by simp)
  have n_b4_co : b4 ≠ co := ne_E hco hb4 (by simp)
  have n_b4_o3 : b4 ≠ o3 := ne_E ho3 hb4 (by simp)
  have n_b4_o6 : b4 ≠ o6 := ne_E ho6 hb4 (by simp)
  have n_co_x : co ≠ x := ne_E hxo hco (by simp)
  have n_co_b1 : co ≠ b1 := ne_E hb1 hco (by simp)
  have n_co_b2 : co ≠ b2 := ne_E hb2 hco (by simp)
  have n_co_b3 : co ≠ b3 := ne_E hb3 hco (by simp)
  have n_co_b4 : co ≠ b4 := ne_E hb4 hco (by simp)
  have n_co_o3 : co ≠ o3 := ne_E ho3 hco (by simp)
  have n_co_o6 : co ≠ o6 := ne_E ho6 hco (by simp)
  have n_o3_x : o3 ≠ x := ne_E hxo ho3 (by simp)
  have n_o3_b1 : o3 ≠ b1 := ne_E hb1 ho3 (by simp)
  have n_o3_b2 : o3 ≠ b2 := ne_E hb2 ho3 (by simp)
  have n_o3_b3 : o3 ≠ b3 := ne_E hb3 ho3 (by simp)
  have n_o3_b4 : o3 ≠ b4 := ne_E hb4 ho3 (by simp)
  have n_o3_co : o3 ≠ co := ne_E hco ho3 (by simp)
  have n_o3_o6 : o3 ≠ o6 := ne_E ho6 ho3 (by simp)
  have n_o6_x : o6 ≠ x := ne_E hxo ho6 (by simp)
  have n_o6_b1 : o6 ≠ b1 := ne_E hb1 ho6 (by simp)
  have n_o6_b2 : o6 ≠ b2 := ne_E hb2 ho6 (by simp)
  have n_o6_b3 : o6 ≠ b3 := ne_E hb3 ho6 (by simp)
  have n_o6_b4 : o6 ≠ b4 := ne_E hb4 ho6 (by simp)
  have n_o6_co : o6 ≠ co := ne_E hco ho6 (by simp)
  have n_o6_o3 : o6 ≠ o3 := ne_E ho3 ho6 (by simp)
  have ho0 : ∀ q : Nat, ¬ own q → f q = f q := fun q _ => rfl
  have hncr_x : ∀ j, j < 80 → cr j ≠ x := fun j hj => ne_E hxo (hcv j hj) (by simp)
  have hncr_b1 : ∀ j, j < 80 → cr j ≠ b1 := fun j hj => ne_E hb1 (hcv j hj) (by simp)
  have hncr_b2 : ∀ j, j < 80 → cr j ≠ b2 := fun j hj => ne_E hb2 (hcv j hj) (by simp)
  have hncr_b3 : ∀ j, j < 80 → cr j ≠ b3 := fun j hj => ne_E hb3 (hcv j hj) (by simp)
  have hncr_b4 : ∀ j, j < 80 → cr j ≠ b4 := fun j hj => ne_E hb4 (hcv j hj) (by simp)
  have hncr_o6 : ∀ j, j < 80 → cr j ≠ o6 := fun j hj => ne_E ho6 (hcv j hj) (by simp)
  refine lv_iload_n hx hb dX7_content_0 rfl (lv_at hl 1 rfl) ?_
  refine x_callSv (As := [.int v]) (rest := []) cx.fix hX hw (x_X7_requirePolynomial l hl0 G L f _ v) (w_cS 1 hts u_98 u_99 u_100 u_101 rfl rfl (by decide) (by decide)) hl.1 rfl (lv_room (Nat.le_of_ble_eq_true rfl)) dX7_content_1 (by decide) (fun E ce q9 u H locs hpe hw hce hcv hcl => ?_) (fun u H locs hp hw => ?_)
  · obtain ⟨hE, hno, e10⟩ := hpe
    rw [e10] at hw
    exact x_out hnt hlocks hw (⟨hE, hno, ho0⟩) hce hcv hcl (by decide) (by decide)
  obtain ⟨hinj, e10⟩ := hp
  rw [e10] at hw
  obtain ⟨j, hj, ejj⟩ := inB_of (by decide) hinj
  subst ejj
  refine lv_aload_n hx hb dX7_content_4 rfl (lv_at hl 0 rfl) ?_
  refine lv_iload_n hx hb dX7_content_5 rfl (lv_at hl 1 rfl) ?_
  refine lv_aload_n hx hb dX7_content_6 rfl (lv_at hl 0 rfl) ?_
  refine w_get (C := RX7) (T := TX7) (N := 15) (ci := 7) (ref := "LiftFactors") (v := .ref b1) hx hb hts inX7_u hown hw hxL hxo rfl 5 (by decide) u_102 rfl hfs5 dX7_content_7 ?_
  refine w_callVv (lf := fun g => (L, g)) (As := [.int (nI j), .ref b1]) (rest := []) cx.fix hw (c_X7_load l G L f _ x b1 co j fs cr0 cr (fun _ _ => 0 : Nat → Nat → Int32) r1 hxL hxo hfs0 hco hcoL hcr hcrL hcv h1L hb1 hj) hxL hxo rfl rfl (w_cV 2 hts u_103 u_104 u_105 u_106 u_107 rfl rfl (by decide) (by decide)) hl.1 rfl (lv_room (Nat.le_of_ble_eq_true rfl)) dX7_content_10 (by decide) (fun u H locs hp hw => ?_)
  have hw : wH G A s.heap s L u H locs := hw
  rw [hp] at hw
  obtain ⟨f1, hf1⟩ : ∃ g, g = va_up f b1 (eJ G 11 (prL (fun k => ((fun _ _ => 0 : Nat → Nat → Int32) j k).toInt64) r1 11)) := ⟨_, rfl⟩
  rw [← hf1] at hw
  have h1_x : f1 x = eO 7 fs := by rw [hf1, va_up_ne _ _ n_x_b1]; exact hxo
  have h1_b1 : f1 b1 = eJ G 11 (prL (fun k => ((fun _ _ => 0 : Nat → Nat → Int32) j k).toInt64) r1 11) := by rw [hf1]; exact va_up_eq _ _ _
  have h1_b2 : f1 b2 = eJ G 11 r2 := by rw [hf1, va_up_ne _ _ n_b2_b1]; exact hb2
  have h1_b3 : f1 b3 = eJ G 11 r3 := by rw [hf1, va_up_ne _ _ n_b3_b1]; exact hb3
  have h1_b4 : f1 b4 = eJ G 21 r4 := by rw [hf1, va_up_ne _ _ n_b4_b1]; exact hb4
  have h1_co : f1 co = eII G 80 cr0 := by rw [hf1, va_up_ne _ _ n_co_b1]; exact hco
  have h1_o3 : f1 o3 = eO 1 fs3 := by rw [hf1, va_up_ne _ _ n_o3_b1]; exact ho3
  have h1_o6 : f1 o6 = eO 5 fs6 := by rw [hf1, va_up_ne _ _ n_o6_b1]; exact ho6
  have hcv1 : ∀ j, j < 80 → f1 (cr j) = eI G 11 (fun _ => 0) := fun j hj => by rw [hf1, va_up_ne _ _ (hncr_b1 j hj)]; exact hcv j hj
  have ho1 : ∀ q : Nat, ¬ own q → f1 q = f q := fun q hq => (show f1 q = f q from by rw [hf1]; exact va_up_ne _ _ (fun h9 => hq (by rw [h9]; exact ow_b1))).trans (ho0 q hq)
  refine lv_aload_n hx hb dX7_content_13 rfl (lv_at hl 0 rfl) ?_
  refine w_get (C := RX7) (T := TX7) (N := 15) (ci := 7) (ref := "LiftFactors") (v := .ref b1) hx hb hts inX7_u hown hw hxL h1_x rfl 5 (by decide) u_102 rfl hfs5 dX7_content_14 ?_
  refine w_callSl (lf := fun g => (L, g)) (As := [.ref b1]) (rest := []) cx.fix hw (c_X5_signedContent0 l G L f1 _ b1 11 (prL (fun k => ((fun _ _ => 0 : Nat → Nat → Int32) j k).toInt64) r1 11) h1L h1_b1 (by decide) (z_load r1 j)) (w_cS 1 hts u_109 u_12 u_13 u_14 rfl rfl (by decide) (by decide)) hl.1 rfl (lv_room (Nat.le_of_ble_eq_true rfl)) dX7_content_17 (by decide) (fun r9 u H locs hp hw => ?_)
  obtain ⟨e9, e10⟩ := hp
  have hw : wH G A s.heap s L u H locs := hw
  rw [e10] at hw
  subst e9
  refine lv_l2i (v := (0 : Int64).toInt32) hx hb dX7_content_20 rfl ?_
  refine vx_ret ?_
  refine W.widen (k := 1) (n := 6) (by decide) (by decide) ?_
  exact w_iret (lf := fun g => (L, g)) hx hb hr hlocks f1 hw (⟨⟨hinj, rfl⟩, ho1⟩) dX7_content_21
set_option maxRecDepth 100000 in
set_option maxHeartbeats 4000000 in
theorem z_X7_factor (l : Launch) (hl0 : l.stackTraces = false) (G : gG) (L : List Nat) (f : Nat → va_E) (sz : Nat) (x : Nat) (own : Nat → Prop) (hz : cZ G L f x own) (k : Int32) :
    vx_Met l yX7_factor (uW yX7_factor cX7_factor 2 (some .int)) { frames := 8, cells := 1, slots := 6, locals := 116 } (wInX G [.ref x, .int k] L f sz) (va_Qi (fun (r9 : Int32) (g : Nat → va_E) => False) (fun g => wAt G (wA L f sz) L g) (wA L f sz)) (xX G (wA L f sz) L (fun E g => E = nAI ∧ cO own f g)) 1 6 (wA L f sz) := by
  refine wEnterX (by decide) (Nat.le_of_ble_eq_true rfl) ?_
  intro p e s m below meth c ls cx hnt hl hsz hw hX
  obtain ⟨hx, hb, hr, hml, hown, hts, hlocks⟩ := id cx
  have hown : s.vm.findClass RX7 = some m.cls := hown
  have hl : lv_has ls 2 [(0, .ref x), (1, .int k)] := hl
  generalize wA L f sz = A at hw hX ⊢
  obtain ⟨fs, fs6, fs3, co, b1, b2, b3, b4, o3, o6, cr0, cr, r1, r2, r3, r4, hxL, hxo, hfl, hfs0, hfs1, hfs4, hfs5, hfs6, hfs7, hfs8, hfs11, hfs14, hcoL, hco, hcr, hcrL, hcv, h1L, hb1, h2L, hb2, h3L, hb3, h4L, hb4, n12, n13, n23, ho3L, ho3, ho6L, ho6, hfl6, ow_x, ow_b1, ow_b2, ow_b3, ow_b4, ow_o6, ow_cr⟩ := hz
  have n_x_b1 : x ≠ b1 := ne_E hb1 hxo (by simp)
  have n_x_b2 : x ≠ b2 := ne_E hb2 hxo (by simp)
  have n_x_b3 : x ≠ b3 := ne_E hb3 hxo (by simp)
  have n_x_b4 : x ≠ b4 := ne_E hb4 hxo (by simp)
  have n_x_co : x ≠ co := ne_E hco hxo (by simp)
  have n_x_o3 : x ≠ o3 := ne_E ho3 hxo (by simp)
  have n_x_o6 : x ≠ o6 := ne_E ho6 hxo (by simp)
  have n_b1_x : b1 ≠ x := ne_E hxo hb1 (by simp)
  have n_b1_b2 : b1 ≠ b2 := n12
  have n_b1_b3 : b1 ≠ b3 := n13
  have n_b1_b4 : b1 ≠ b4 := ne_E hb4 hb1 (by simp)
  have n_b1_co : b1 ≠ co := ne_E hco hb1 (by simp)
  have n_b1_o3 : b1 ≠ o3 := ne_E ho3 hb1 (by simp)
  have n_b1_o6 : b1 ≠ o6 := ne_E ho6 hb1 (by simp)
  have n_b2_x : b2 ≠ x := ne_E hxo hb2 (by simp)
  have n_b2_b1 : b2 ≠ b1 := (n12).symm
  have n_b2_b3 : b2 ≠ b3 := n23
  have n_b2_b4 : b2 ≠ b4 := ne_E hb4 hb2 (by simp)
  have n_b2_co : b2 ≠ co := ne_E hco hb2 (by simp)
  have n_b2_o3 : b2 ≠ o3 := ne_E ho3 hb2 (by simp)
  have n_b2_o6 : b2 ≠ o6 := ne_E ho6 hb2 (by simp)
  have n_b3_x : b3 ≠ x := ne_E hxo hb3 (by simp)
  have n_b3_b1 : b3 ≠ b1 := (n13).symm
  have n_b3_b2 : b3 ≠ b2 := (n23).symm
  have n_b3_b4 : b3 ≠ b4 := ne_E hb4 hb3 (by simp)
  have n_b3_co : b3 ≠ co := ne_E hco hb3 (by simp)
  have n_b3_o3 : b3 ≠ o3 := ne_E ho3 hb3 (by simp)
  have n_b3_o6 : b3 ≠ o6 := ne_E ho6 hb3 (by simp)
  have n_b4_x : b4 ≠ x := ne_E hxo hb4 (by simp)
  have n_b4_b1 : b4 ≠ b1 := ne_E hb1 hb4 (by simp)
  have n_b4_b2 : b4 ≠ b2 := ne_E hb2 hb4 (by simp)
  have n_b4_b3 : b4 ≠ b3 := ne_E hb3 hb4 (by simp)
  have n_b4_co : b4 ≠ co := ne_E hco hb4 (by simp)
  have n_b4_o3 : b4 ≠ o3 := ne_E ho3 hb4 (by simp)
  have n_b4_o6 : b4 ≠ o6 := ne_E ho6 hb4 (by simp)
  have n_co_x : co ≠ x := ne_E hxo hco (by simp)
  have n_co_b1 : co ≠ b1 := ne_E hb1 hco (by simp)
  have n_co_b2 : co ≠ b2 := ne_E hb2 hco (by simp)
  have n_co_b3 : co ≠ b3 := ne_E hb3 hco (by simp)
  have n_co_b4 : co ≠ b4 := ne_E hb4 hco (by simp)
  have n_co_o3 : co ≠ o3 := ne_E ho3 hco (by simp)
  have n_co_o6 : co ≠ o6 := ne_E ho6 hco (by simp)
  have n_o3_x : o3 ≠ x := ne_E hxo ho3 (by simp)
  have n_o3_b1 : o3 ≠ b1 := ne_E hb1 ho3 (by simp)
  have n_o3_b2 : o3 ≠ b2 := ne_E hb2 ho3 (by simp)
  have n_o3_b3 : o3 ≠ b3 := ne_E hb3 ho3 (by simp)
  have n_o3_b4 : o3 ≠ b4 := ne_E hb4 ho3 (by simp)
  have n_o3_co : o3 ≠ co := ne_E hco ho3 (by simp)
  have n_o3_o6 : o3 ≠ o6 := ne_E ho6 ho3 (by simp)
  have n_o6_x : o6 ≠ x := ne_E hxo ho6 (by simp)
  have n_o6_b1 : o6 ≠ b1 := ne_E hb1 ho6 (by simp)
  have n_o6_b2 : o6 ≠ b2 := ne_E hb2 ho6 (by simp)
  have n_o6_b3 : o6 ≠ b3 := ne_E hb3 ho6 (by simp)
  have n_o6_b4 : o6 ≠ b4 := ne_E hb4 ho6 (by simp)
  have n_o6_co : o6 ≠ co := ne_E hco ho6 (by simp)
  have n_o6_o3 : o6 ≠ o3 := ne_E ho3 ho6 (by simp)
  have ho0 : ∀ q : Nat, ¬ own q → f q = f q := fun q _ => rfl
  have hncr_x : ∀ j, j < 80 → cr j ≠ x := fun j hj => ne_E hxo (hcv j hj) (by simp)
  have hncr_b1 : ∀ j, j < 80 → cr j ≠ b1 := fun j hj => ne_E hb1 (hcv j hj) (by simp)
  have hncr_b2 : ∀ j, j < 80 → cr j ≠ b2 := fun j hj => ne_E hb2 (hcv j hj) (by simp)
  have hncr_b3 : ∀ j, j < 80 → cr j ≠ b3 := fun j hj => ne_E hb3 (hcv j hj) (by simp)
  have hncr_b4 : ∀ j, j < 80 → cr j ≠ b4 := fun j hj => ne_E hb4 (hcv j hj) (by simp)
  have hncr_o6 : ∀ j, j < 80 → cr j ≠ o6 := fun j hj => ne_E ho6 (hcv j hj) (by simp)
  refine lv_aload_n hx hb dX7_factor_0 rfl (lv_at hl 0 rfl) ?_
  refine lv_iload_n hx hb dX7_factor_1 rfl (lv_at hl 1 rfl) ?_
  refine x_callVv (As := [.int k]) (rest := []) cx.fix hX hw (x_X7_requireFactor0 l hl0 G L f _ x fs hxL hxo hfs4 k) hxL hxo rfl rfl (w_cV 1 hts u_110 u_111 u_112 u_113 u_114 rfl rfl (by decide) (by decide)) hl.1 rfl (lv_room (Nat.le_of_ble_eq_true rfl)) dX7_factor_2 (by decide) (fun E ce q9 u H locs hpe hw hce hcv hcl => ?_) (fun u H locs hp hw => ?_)
  · obtain ⟨hE, e10⟩ := hpe
    rw [e10] at hw
    exact x_out hnt hlocks hw (⟨hE, ho0⟩) hce hcv hcl (by decide) (by decide)
  exact hp.elim
set_option maxRecDepth 100000 in
set_option maxHeartbeats 4000000 in
theorem z_X7_multiplicity (l : Launch) (hl0 : l.stackTraces = false) (G : gG) (L : List Nat) (f : Nat → va_E) (sz : Nat) (x : Nat) (own : Nat → Prop) (hz : cZ G L f x own) (k : Int32) :
    vx_Met l yX7_multiplicity (uW yX7_multiplicity cX7_multiplicity 2 (some .int)) { frames := 8, cells := 1, slots := 6, locals := 116 } (wInX G [.ref x, .int k] L f sz) (va_Qi (fun (r9 : Int32) (g : Nat → va_E) => False) (fun g => wAt G (wA L f sz) L g) (wA L f sz)) (xX G (wA L f sz) L (fun E g => E = nAI ∧ cO own f g)) 1 6 (wA L f sz) := by
  refine wEnterX (by decide) (Nat.le_of_ble_eq_true rfl) ?_
  intro p e s m below meth c ls cx hnt hl hsz hw hX
  obtain ⟨hx, hb, hr, hml, hown, hts, hlocks⟩ := id cx
  have hown : s.vm.findClass RX7 = some m.cls := hown
  have hl : lv_has ls 2 [(0, .ref x), (1, .int k)] := hl
  generalize wA L f sz = A at hw hX ⊢
  obtain ⟨fs, fs6, fs3, co, b1, b2, b3, b4, o3, o6, cr0, cr, r1, r2, r3, r4, hxL, hxo, hfl, hfs0, hfs1, hfs4, hfs5, hfs6, hfs7, hfs8, hfs11, hfs14, hcoL, hco, hcr, hcrL, hcv, h1L, hb1, h2L, hb2, h3L, hb3, h4L, hb4, n12, n13, n23, ho3L, ho3, ho6L, ho6, hfl6, ow_x, ow_b1, ow_b2, ow_b3, ow_b4, ow_o6, ow_cr⟩ := hz
  have n_x_b1 : x ≠ b1 := ne_E hb1 hxo (by simp)
  have n_x_b2 : x ≠ b2 := ne_E hb2 hxo (by simp)
  have n_x_b3 : x ≠ b3 := ne_E hb3 hxo (by simp)
  have n_x_b4 : x ≠ b4 := ne_E hb4 hxo (by simp)
  have n_x_co : x ≠ co := ne_E hco hxo (by simp)
  have n_x_o3 : x ≠ o3 := ne_E ho3 hxo (by simp)
  have n_x_o6 : x ≠ o6 := ne_E ho6 hxo (by simp)
  have n_b1_x : b1 ≠ x := ne_E hxo hb1 (by simp)
  have n_b1_b2 : b1 ≠ b2 := n12
  have n_b1_b3 : b1 ≠ b3 := n13
  have n_b1_b4 : b1 ≠ b4 := ne_E hb4 hb1 (by simp)
  have n_b1_co : b1 ≠ co := ne_E hco hb1 (by simp)
  have n_b1_o3 : b1 ≠ o3 := ne_E ho3 hb1 (by simp)
  have n_b1_o6 : b1 ≠ o6 := ne_E ho6 hb1 (by simp)
  have n_b2_x : b2 ≠ x := ne_E hxo hb2 (by simp)
  have n_b2_b1 : b2 ≠ b1 := (n12).symm
  have n_b2_b3 : b2 ≠ b3 := n23
  have n_b2_b4 : b2 ≠ b4 := ne_E hb4 hb2 (by simp)
  have n_b2_co : b2 ≠ co := ne_E hco hb2 (by simp)
  have n_b2_o3 : b2 ≠ o3 := ne_E ho3 hb2 (by simp)
  have n_b2_o6 : b2 ≠ o6 := ne_E ho6 hb2 (by simp)
  have n_b3_x : b3 ≠ x := ne_E hxo hb3 (by simp)
  have n_b3_b1 : b3 ≠ b1 := (n13).symm
  have n_b3_b2 : b3 ≠ b2 := (n23).symm
  have n_b3_b4 : b3 ≠ b4 := ne_E hb4 hb3 (by simp)
  have n_b3_co : b3 ≠ co := ne_E hco hb3 (by simp)
  have n_b3_o3 : b3 ≠ o3 := ne_E ho3 hb3 (by simp)
  have n_b3_o6 : b3 ≠ o6 := ne_E ho6 hb3 (by simp)
  have n_b4_x : b4 ≠ x := ne_E hxo hb4 (by simp)
  have n_b4_b1 : b4 ≠ b1 := ne_E hb1 hb4 (by simp)
  have n_b4_b2 : b4 ≠ b2 := ne_E hb2 hb4 (by simp)
  have n_b4_b3 : b4 ≠ b3 := ne_E hb3 hb4 (by simp)
  have n_b4_co : b4 ≠ co := ne_E hco hb4 (by simp)
  have n_b4_o3 : b4 ≠ o3 := ne_E ho3 hb4 (by simp)
  have n_b4_o6 : b4 ≠ o6 := ne_E ho6 hb4 (by simp)
  have n_co_x : co ≠ x := ne_E hxo hco (by simp)
  have n_co_b1 : co ≠ b1 := ne_E hb1 hco (by simp)
  have n_co_b2 : co ≠ b2 := ne_E hb2 hco (by simp)
  have n_co_b3 : co ≠ b3 := ne_E hb3 hco (by simp)
  have n_co_b4 : co ≠ b4 := ne_E hb4 hco (by simp)
  have n_co_o3 : co ≠ o3 := ne_E ho3 hco (by simp)
  have n_co_o6 : co ≠ o6 := ne_E ho6 hco (by simp)
  have n_o3_x : o3 ≠ x := ne_E hxo ho3 (by simp)
  have n_o3_b1 : o3 ≠ b1 := ne_E hb1 ho3 (by simp)
  have n_o3_b2 : o3 ≠ b2 := ne_E hb2 ho3 (by simp)
  have n_o3_b3 : o3 ≠ b3 := ne_E hb3 ho3 (by simp)
  have n_o3_b4 : o3 ≠ b4 := ne_E hb4 ho3 (by simp)
  have n_o3_co : o3 ≠ co := ne_E hco ho3 (by simp)
  have n_o3_o6 : o3 ≠ o6 := ne_E ho6 ho3 (by simp)
  have n_o6_x : o6 ≠ x := ne_E hxo ho6 (by simp)
  have n_o6_b1 : o6 ≠ b1 := ne_E hb1 ho6 (by simp)
  have n_o6_b2 : o6 ≠ b2 := ne_E hb2 ho6 (by simp)
  have n_o6_b3 : o6 ≠ b3 := ne_E hb3 ho6 (by simp)
  have n_o6_b4 : o6 ≠ b4 := ne_E hb4 ho6 (by simp)
  have n_o6_co : o6 ≠ co := ne_E hco ho6 (by simp)
  have n_o6_o3 : o6 ≠ o3 := ne_E ho3 ho6 (by simp)
  have ho0 : ∀ q : Nat, ¬ own q → f q = f q := fun q _ => rfl
  have hncr_x : ∀ j, j < 80 → cr j ≠ x := fun j hj => ne_E hxo (hcv j hj) (by simp)
  have hncr_b1 : ∀ j, j < 80 → cr j ≠ b1 := fun j hj => ne_E hb1 (hcv j hj) (by simp)
  have hncr_b2 : ∀ j, j < 80 → cr j ≠ b2 := fun j hj => ne_E hb2 (hcv j hj) (by simp)
  have hncr_b3 : ∀ j, j < 80 → cr j ≠ b3 := fun j hj => ne_E hb3 (hcv j hj) (by simp)
  have hncr_b4 : ∀ j, j < 80 → cr j ≠ b4 := fun j hj => ne_E hb4 (hcv j hj) (by simp)
  have hncr_o6 : ∀ j, j < 80 → cr j ≠ o6 := fun j hj => ne_E ho6 (hcv j hj) (by simp)
  refine lv_aload_n hx hb dX7_multiplicity_0 rfl (lv_at hl 0 rfl) ?_
  refine lv_iload_n hx hb dX7_multiplicity_1 rfl (lv_at hl 1 rfl) ?_
  refine x_callVv (As := [.int k]) (rest := []) cx.fix hX hw (x_X7_requireFactor0 l hl0 G L f _ x fs hxL hxo hfs4 k) hxL hxo rfl rfl (w_cV 1 hts u_110 u_111 u_112 u_113 u_114 rfl rfl (by decide) (by decide)) hl.1 rfl (lv_room (Nat.le_of_ble_eq_true rfl)) dX7_multiplicity_2 (by decide) (fun E ce q9 u H locs hpe hw hce hcv hcl => ?_) (fun u H locs hp hw => ?_)
  · obtain ⟨hE, e10⟩ := hpe
    rw [e10] at hw
    exact x_out hnt hlocks hw (⟨hE, ho0⟩) hce hcv hcl (by decide) (by decide)
  exact hp.elim
