theorem u_218 : Cond.methodLink RX7 3 objectInit ∈ uU := uU_in (by decide +kernel) (by decide +kernel)
theorem u_219 : Cond.classLink RX7 9 "[[I" ∈ uU := uU_in (by decide +kernel) (by decide +kernel)
theorem u_220 : Cond.fieldLink RX7 18 "LiftFactors" "factorNumbers" "[I" ∈ uU := uU_in (by decide +kernel) (by decide +kernel)
theorem u_221 : Cond.fieldLink RX7 22 "LiftFactors" "factorMultiplicities" "[I" ∈ uU := uU_in (by decide +kernel) (by decide +kernel)
theorem u_222 : Cond.classLink RX7 41 RX3 ∈ uU := uU_in (by decide +kernel) (by decide +kernel)
theorem u_223 : Cond.instantiable RX3 5 ∈ uU := uU_in (by decide +kernel) (by decide +kernel)
theorem u_224 : Cond.initialized RX3 ∈ uU := uU_in (by decide +kernel) (by decide +kernel)
theorem u_225 : Cond.instanceMethod yX3_init ∈ uU := uU_in (by decide +kernel) (by decide +kernel)
theorem u_226 : Cond.initialized yX3_init.cls ∈ uU := uU_in (by decide +kernel) (by decide +kernel)
theorem u_227 : Cond.code yX3_init cX3_init 1 none ∈ uU := uU_in (by decide +kernel) (by decide +kernel)
theorem u_228 : Cond.fieldLink RX7 44 "LiftFactors" "field" "LLiftFactors$Field;" ∈ uU := uU_in (by decide +kernel) (by decide +kernel)
theorem u_229 : Cond.classLink RX7 48 RX1 ∈ uU := uU_in (by decide +kernel) (by decide +kernel)
theorem u_230 : Cond.instantiable RX1 2 ∈ uU := uU_in (by decide +kernel) (by decide +kernel)
theorem u_231 : Cond.initialized RX1 ∈ uU := uU_in (by decide +kernel) (by decide +kernel)
theorem u_232 : Cond.instanceMethod yX1_init ∈ uU := uU_in (by decide +kernel) (by decide +kernel)
theorem u_233 : Cond.initialized yX1_init.cls ∈ uU := uU_in (by decide +kernel) (by decide +kernel)
theorem u_234 : Cond.code yX1_init cX1_init 1 none ∈ uU := uU_in (by decide +kernel) (by decide +kernel)
theorem u_235 : Cond.fieldLink RX7 51 "LiftFactors" "divider" "LLiftFactors$Divider;" ∈ uU := uU_in (by decide +kernel) (by decide +kernel)
theorem u_236 : Cond.classLink RX7 55 RX0 ∈ uU := uU_in (by decide +kernel) (by decide +kernel)
theorem u_237 : Cond.instantiable RX0 2 ∈ uU := uU_in (by decide +kernel) (by decide +kernel)
theorem u_238 : Cond.initialized RX0 ∈ uU := uU_in (by decide +kernel) (by decide +kernel)
theorem u_239 : Cond.methodLink RX7 57 yX0_init ∈ uU := uU_in (by decide +kernel) (by decide +kernel)
theorem u_240 : Cond.instanceMethod yX0_init ∈ uU := uU_in (by decide +kernel) (by decide +kernel)
theorem u_241 : Cond.initialized yX0_init.cls ∈ uU := uU_in (by decide +kernel) (by decide +kernel)
theorem u_242 : Cond.code yX0_init cX0_init 3 none ∈ uU := uU_in (by decide +kernel) (by decide +kernel)
theorem u_243 : Cond.classLink RX7 64 RX6 ∈ uU := uU_in (by decide +kernel) (by decide +kernel)
theorem u_244 : Cond.instantiable RX6 9 ∈ uU := uU_in (by decide +kernel) (by decide +kernel)
theorem u_245 : Cond.initialized RX6 ∈ uU := uU_in (by decide +kernel) (by decide +kernel)
theorem u_246 : Cond.methodLink RX7 66 yX6_init ∈ uU := uU_in (by decide +kernel) (by decide +kernel)
theorem u_247 : Cond.instanceMethod yX6_init ∈ uU := uU_in (by decide +kernel) (by decide +kernel)
theorem u_248 : Cond.initialized yX6_init.cls ∈ uU := uU_in (by decide +kernel) (by decide +kernel)
theorem u_249 : Cond.code yX6_init cX6_init 2 none ∈ uU := uU_in (by decide +kernel) (by decide +kernel)
theorem u_250 : Cond.fieldLink RX7 69 "LiftFactors" "splitter" "LLiftFactors$Splitter;" ∈ uU := uU_in (by decide +kernel) (by decide +kernel)
theorem u_251 : Cond.classLink RX7 73 RX2 ∈ uU := uU_in (by decide +kernel) (by decide +kernel)
theorem u_252 : Cond.instantiable RX2 11 ∈ uU := uU_in (by decide +kernel) (by decide +kernel)
theorem u_253 : Cond.initialized RX2 ∈ uU := uU_in (by decide +kernel) (by decide +kernel)
theorem u_254 : Cond.methodLink RX7 75 yX2_init ∈ uU := uU_in (by decide +kernel) (by decide +kernel)
theorem u_255 : Cond.instanceMethod yX2_init ∈ uU := uU_in (by decide +kernel) (by decide +kernel)
theorem u_256 : Cond.initialized yX2_init.cls ∈ uU := uU_in (by decide +kernel) (by decide +kernel)
theorem u_257 : Cond.code yX2_init cX2_init 5 none ∈ uU := uU_in (by decide +kernel) (by decide +kernel)
theorem u_258 : Cond.fieldLink RX7 78 "LiftFactors" "factorizer" "LLiftFactors$Factorizer;" ∈ uU := uU_in (by decide +kernel) (by decide +kernel)
theorem u_259 : Cond.classLink RX7 82 RX4 ∈ uU := uU_in (by decide +kernel) (by decide +kernel)
theorem u_260 : Cond.instantiable RX4 5 ∈ uU := uU_in (by decide +kernel) (by decide +kernel)
theorem u_261 : Cond.initialized RX4 ∈ uU := uU_in (by decide +kernel) (by decide +kernel)
theorem u_262 : Cond.instanceMethod yX4_init ∈ uU := uU_in (by decide +kernel) (by decide +kernel)
theorem u_263 : Cond.initialized yX4_init.cls ∈ uU := uU_in (by decide +kernel) (by decide +kernel)
theorem u_264 : Cond.code yX4_init cX4_init 1 none ∈ uU := uU_in (by decide +kernel) (by decide +kernel)
theorem u_265 : Cond.methodLink RX8 1 objectInit ∈ uU := uU_in (by decide +kernel) (by decide +kernel)
theorem u_266 : Cond.fieldLink RX8 7 "LiftFactorsModel" "primesBelow" "[I" ∈ uU := uU_in (by decide +kernel) (by decide +kernel)
theorem u_267 : Cond.fieldLink RX8 16 "LiftFactorsModel" "factorNumber" "[I" ∈ uU := uU_in (by decide +kernel) (by decide +kernel)
theorem u_268 : Cond.fieldLink RX8 19 "LiftFactorsModel" "multiplicity" "[I" ∈ uU := uU_in (by decide +kernel) (by decide +kernel)
theorem u_269 : Cond.fieldLink RX8 29 "LiftFactorsModel" "foundOften" "[I" ∈ uU := uU_in (by decide +kernel) (by decide +kernel)
theorem u_270 : Cond.arrayClass .boolean ∈ uU := uU_in (by decide +kernel) (by decide +kernel)
theorem u_271 : Cond.fieldLink RX8 32 "LiftFactorsModel" "taken" "[Z" ∈ uU := uU_in (by decide +kernel) (by decide +kernel)
theorem u_272 : Cond.fieldLink RX8 36 "LiftFactorsModel" "perDegree" "[I" ∈ uU := uU_in (by decide +kernel) (by decide +kernel)
theorem u_273 : Cond.fieldLink RX8 39 "LiftFactorsModel" "rootAbove" "[I" ∈ uU := uU_in (by decide +kernel) (by decide +kernel)
theorem u_274 : Cond.fieldLink RX8 42 "LiftFactorsModel" "rootBelow" "[I" ∈ uU := uU_in (by decide +kernel) (by decide +kernel)
/-- the addresses that came with x -/
def kOwn (L : List Nat) (x : Nat) (u : List Nat × (Nat → va_E)) (q : Nat) : Prop := q = x ∨ (q ∈ u.1 ∧ q ∉ L)
def kC (G : gG) (L : List Nat) (f : Nat → va_E) (x : Nat) (u : List Nat × (Nat → va_E)) : Prop := (∀ q ∈ L, q ∈ u.1) ∧ (∀ q ∈ L, q ≠ x → u.2 q = f q) ∧ cZ G u.1 u.2 x (kOwn L x u)
def kM (G : gG) (L : List Nat) (f : Nat → va_E) (x : Nat) (u : List Nat × (Nat → va_E)) : Prop := (∀ q ∈ L, q ∈ u.1) ∧ (∀ q ∈ L, q ≠ x → u.2 q = f q) ∧ ∃ ww dd ca : Nat, mZ G u.1 u.2 x ww dd ca ∧ ww ∉ L ∧ dd ∉ L ∧ ca ∉ L
set_option maxRecDepth 100000 in
set_option maxHeartbeats 4000000 in
theorem k_X7_init (l : Launch) (G : gG) (L : List Nat) (f : Nat → va_E) (sz : Nat) (x : Nat) (fs : List Value) (hxL : x ∈ L) (hxo : f x = eO 7 fs) (hfl : fs.length = 15) :
    Met l yX7_init (uW yX7_init cX7_init 1 none) { frames := 2, cells := 155, slots := 1858, locals := 44 } (wInK G [.ref x] L f sz) (va_Qv (fun (u : List Nat × (Nat → va_E)) => kC G L f x u) (fun u => wAt G (wA L f sz) u.1 u.2) (wA L f sz)) 155 1858 (wA L f sz) := by
  refine kEnter (by decide) (by decide) (Nat.le_of_ble_eq_true rfl) ?_
  intro p e s m below meth c ls cx hin hl hw hk
  obtain ⟨hx, hb, hr, hml, hown, hts, hlocks⟩ := id cx
  have hown : s.vm.findClass RX7 = some m.cls := hown
  have hl : lv_has ls 1 [(0, .ref x)] := hl
  generalize wA L f sz = A at hw ⊢
  have hsub0 : ∀ q ∈ L, q ∈ L := fun _ h => h
  have hof0 : ∀ q ∈ L, q ≠ x → f q = f q := fun _ _ _ => rfl

  refine lv_aload_n hx hb dX7_init_0 rfl (lv_at hl 0 rfl) ?_
  refine W.objInit hx hb hown (hts _ u_218) (hts _ u_173) (hts _ u_174) rfl (by rw [hml]; exact hl.1) rfl dX7_init_1 (Nat.le_of_ble_eq_true rfl) (Nat.le_of_ble_eq_true rfl) ?_
  refine W.eq (g2 := F0 m 4 ls []) rfl ?_
  refine lv_aload_n hx hb dX7_init_4 rfl (lv_at hl 0 rfl) ?_
  refine lv_bipush (v := nI 80) hx hb dX7_init_5 (by decide) ?_
  refine lv_bipush (v := nI 11) hx hb dX7_init_7 (by decide) ?_
  refine k_mna hx hb hts hown hk .int 0 3 (Or.inl ⟨rfl, rfl, rfl⟩) (11, .inl (fun _ => 0)) 80 11 (fun _ => by rw [show vp_cell _ (11, .inl (fun _ => 0)) = arrV _ 11 (fun _ => defaultValue .int) from rfl, ← arrV_new]; rfl) u_219 u_200 hw (by decide) (by decide) (by decide) (by decide) dX7_init_9 (fun co cr H hq_co hr_co hw => ?_)
  obtain ⟨L1, eL1⟩ : ∃ z : List Nat, z = co :: (L ++ (List.range 80).map cr) := ⟨_, rfl⟩
  obtain ⟨f1, ef1⟩ : ∃ z : Nat → va_E, z = va_up (vr_up f ((List.range 80).map cr) (eI G 11 (fun _ => 0))) co (eII G 80 (fun i => if i < 80 then some (cr i) else none)) := ⟨_, rfl⟩
  rw [← eL1, ← ef1] at hw
  have hnr_co : ∀ q ∈ L, q ∉ (List.range 80).map cr := fun q h h9 => by
    obtain ⟨i, hi, e9⟩ := List.mem_map.mp h9
    exact (hr_co i (List.mem_range.mp hi)).1 (by rw [e9]; exact h)
  have hm1 : ∀ q ∈ L, q ∈ L1 := fun q h => by rw [eL1]; exact List.mem_cons_of_mem _ (List.mem_append_left _ h)
  have hf1 : ∀ q ∈ L, True → f1 q = f q := fun q h hne => by rw [ef1]; exact (va_up_ne _ _ (fun h9 => hq_co (by rw [← h9]; exact h))).trans (vr_up_ne (hnr_co q h))
  have hsub1 : ∀ q ∈ L, q ∈ L1 := fun q h => hm1 q (hsub0 q h)
  have hof1 : ∀ q ∈ L, q ≠ x → f1 q = f q := fun q h hne => (hf1 q (hsub0 q h) trivial).trans (hof0 q h hne)
  have m1_x : x ∈ L1 := hm1 _ hxL
  have h1_x : f1 x = eO 7 fs := (hf1 _ hxL trivial).trans hxo
  have mq_co : co ∈ L1 := by rw [eL1]; exact List.mem_cons_self
  have hv_co : f1 co = eII G 80 (fun i => if i < 80 then some (cr i) else none) := by rw [ef1]; exact va_up_eq _ _ _
  have nx_co : co ≠ x := fun h9 => hq_co (by rw [h9]; exact hxL)
  have mr1 : ∀ j, j < 80 → cr j ∈ L1 := fun j hj => by rw [eL1]; exact List.mem_cons_of_mem _ (List.mem_append_right _ (List.mem_map.mpr ⟨j, List.mem_range.mpr hj, rfl⟩))
  have hr1 : ∀ j, j < 80 → f1 (cr j) = eI G 11 (fun _ => 0) := fun j hj => by rw [ef1, va_up_ne _ _ (hr_co j hj).2]; exact vr_up_in (List.mem_map.mpr ⟨j, List.mem_range.mpr hj, rfl⟩)
  have nrx : ∀ j, j < 80 → cr j ≠ x := fun j hj h9 => (hr_co j hj).1 (by rw [h9]; exact hxL)
  have hro : ∀ j, j < 80 → cr j ∉ L := fun j hj h9 => (hr_co j hj).1 (hsub0 _ h9)
  have nn_x_co : x ≠ co := fun h9 => hq_co (by rw [← h9]; exact hxL)
  have nl_co : co ∉ L := fun h9 => hq_co (hsub0 _ h9)
  have nr_co : ∀ j, j < 80 → cr j ≠ co := fun j hj => (hr_co j hj).2
  refine k_putF (own := RX7) (C := RX7) (T := TX7) (N := 15) (ci := 7) (ty := (.array (.array .int))) (v := .ref co) hx hb hts inX7_u tyX7 tyX7_ok nmX7 hown hw m1_x h1_x rfl 0 (by decide) u_0 rfl rfl hin (by decide +kernel) rfl rfl (by rw [hfl]; decide) dX7_init_13 (fun H locs hw => ?_)
  obtain ⟨fs2, hz2⟩ : ∃ zz9, zz9 = fs.set 0 (.ref co) := ⟨_, rfl⟩
  rw [← hz2] at hw
  have hlen2 : fs2.length = 15 := by rw [hz2, List.length_set]; exact hfl
  have g2_0 : fs2[0]? = some (.ref co) := by rw [hz2, List.getElem?_set_self (by rw [hfl]; decide)]
  obtain ⟨f3, ef3⟩ : ∃ z9 : Nat → va_E, z9 = va_up f1 x (eO 7 fs2) := ⟨_, rfl⟩
  rw [← ef3] at hw
  have eL3 : L1 = L1 := rfl
  have hf3 : ∀ q : Nat, q ≠ x → f3 q = f1 q := fun q hne => by rw [ef3]; exact va_up_ne _ _ hne
  have hof3 : ∀ q ∈ L, q ≠ x → f3 q = f q := fun q h hne => (hf3 q hne).trans (hof1 q h hne)
  have h3_co : f3 co = eII G 80 (fun i => if i < 80 then some (cr i) else none) := (hf3 _ nx_co).trans hv_co
  have hr3 : ∀ j, j < 80 → f3 (cr j) = eI G 11 (fun _ => 0) := fun j hj => (hf3 _ (nrx j hj)).trans (hr1 j hj)
  have h3_x : f3 x = eO 7 fs2 := by rw [ef3]; exact va_up_eq _ _ _
  refine lv_aload_n hx hb dX7_init_16 rfl (lv_at hl 0 rfl) ?_
  refine lv_iconst (v := nI 0) hx hb dX7_init_17 (by decide) ?_
  refine w_put (C := RX7) (T := TX7) (N := 15) (ci := 7) (ref := "LiftFactors") (ty := .int) (v := .int (nI 0)) hx hb hts inX7_u tyX7 tyX7_ok nmX7 hown hw m1_x h3_x rfl 1 (by decide) u_1 rfl rfl (by decide +kernel) rfl rfl (by rw [hlen2]; decide) dX7_init_18 (fun H locs hw => ?_)
  obtain ⟨fs4, hz4⟩ : ∃ zz9, zz9 = fs2.set 1 (.int (nI 0)) := ⟨_, rfl⟩
  rw [← hz4] at hw
  have hlen4 : fs4.length = 15 := by rw [hz4, List.length_set]; exact hlen2
  have g4_0 : fs4[0]? = some (.ref co) := by rw [hz4, List.getElem?_set_ne (by decide)]; exact g2_0
  have g4_1 : fs4[1]? = some (.int (nI 0)) := by rw [hz4, List.getElem?_set_self (by rw [hlen2]; decide)]
  obtain ⟨f5, ef5⟩ : ∃ z9 : Nat → va_E, z9 = va_up f3 x (eO 7 fs4) := ⟨_, rfl⟩
  rw [← ef5] at hw
  have eL5 : L1 = L1 := rfl
  have hf5 : ∀ q : Nat, q ≠ x → f5 q = f3 q := fun q hne => by rw [ef5]; exact va_up_ne _ _ hne
  have hof5 : ∀ q ∈ L, q ≠ x → f5 q = f q := fun q h hne => (hf5 q hne).trans (hof3 q h hne)
  have h5_co : f5 co = eII G 80 (fun i => if i < 80 then some (cr i) else none) := (hf5 _ nx_co).trans h3_co
  have hr5 : ∀ j, j < 80 → f5 (cr j) = eI G 11 (fun _ => 0) := fun j hj => (hf5 _ (nrx j hj)).trans (hr3 j hj)
  have h5_x : f5 x = eO 7 fs4 := by rw [ef5]; exact va_up_eq _ _ _
  refine lv_aload_n hx hb dX7_init_21 rfl (lv_at hl 0 rfl) ?_
  refine lv_bipush (v := nI 10) hx hb dX7_init_22 (by decide) ?_
  refine k_newI hx hb hts u_200 hw 10 (by decide) (by decide) (by decide) dX7_init_24 (fun fn H hq_fn hw => ?_)
  obtain ⟨L6, eL6⟩ : ∃ z : List Nat, z = L1 ++ [fn] := ⟨_, rfl⟩
  obtain ⟨f6, ef6⟩ : ∃ z : Nat → va_E, z = va_up f5 fn (eI G 10 (fun _ => 0)) := ⟨_, rfl⟩
  rw [← eL6, ← ef6] at hw
  have hm6 : ∀ q ∈ L1, q ∈ L6 := fun q h => by rw [eL6]; exact List.mem_append_left _ h
  have hf6 : ∀ q ∈ L1, True → f6 q = f5 q := fun q h hne => by rw [ef6]; exact va_up_ne _ _ (fun h9 => hq_fn (by rw [← h9]; exact h))
  have hsub6 : ∀ q ∈ L, q ∈ L6 := fun q h => hm6 q (hsub1 q h)
  have hof6 : ∀ q ∈ L, q ≠ x → f6 q = f q := fun q h hne => (hf6 q (hsub1 q h) trivial).trans (hof5 q h hne)
  have m6_x : x ∈ L6 := hm6 _ m1_x
  have h6_x : f6 x = eO 7 fs4 := (hf6 _ m1_x trivial).trans h5_x
  have m6_co : co ∈ L6 := hm6 _ mq_co
  have h6_co : f6 co = eII G 80 (fun i => if i < 80 then some (cr i) else none) := (hf6 _ mq_co trivial).trans h5_co
  have mr6 : ∀ j, j < 80 → cr j ∈ L6 := fun j hj => hm6 _ (mr1 j hj)
  have hr6 : ∀ j, j < 80 → f6 (cr j) = eI G 11 (fun _ => 0) := fun j hj => (hf6 _ (mr1 j hj) trivial).trans (hr5 j hj)
  have mq_fn : fn ∈ L6 := by rw [eL6]; exact List.mem_append_right _ (List.mem_singleton.mpr rfl)
  have hv_fn : f6 fn = eI G 10 (fun _ => 0) := by rw [ef6]; exact va_up_eq _ _ _
  have nx_fn : fn ≠ x := fun h9 => hq_fn (by rw [h9]; exact m1_x)
  have nn_x_fn : x ≠ fn := fun h9 => hq_fn (by rw [← h9]; exact m1_x)
  have nn_co_fn : co ≠ fn := fun h9 => hq_fn (by rw [← h9]; exact mq_co)
  have nl_fn : fn ∉ L := fun h9 => hq_fn (hsub1 _ h9)
  have nr_fn : ∀ j, j < 80 → cr j ≠ fn := fun j hj h9 => hq_fn (by rw [← h9]; exact mr1 j hj)
  refine k_putF (own := RX7) (C := RX7) (T := TX7) (N := 15) (ci := 7) (ty := (.array .int)) (v := .ref fn) hx hb hts inX7_u tyX7 tyX7_ok nmX7 hown hw m6_x h6_x rfl 2 (by decide) u_220 rfl rfl hin (by decide +kernel) rfl rfl (by rw [hlen4]; decide) dX7_init_26 (fun H locs hw => ?_)
  obtain ⟨fs7, hz7⟩ : ∃ zz9, zz9 = fs4.set 2 (.ref fn) := ⟨_, rfl⟩
  rw [← hz7] at hw
  have hlen7 : fs7.length = 15 := by rw [hz7, List.length_set]; exact hlen4
  have g7_0 : fs7[0]? = some (.ref co) := by rw [hz7, List.getElem?_set_ne (by decide)]; exact g4_0
  have g7_1 : fs7[1]? = some (.int (nI 0)) := by rw [hz7, List.getElem?_set_ne (by decide)]; exact g4_1
  have g7_2 : fs7[2]? = some (.ref fn) := by rw [hz7, List.getElem?_set_self (by rw [hlen4]; decide)]
  obtain ⟨f8, ef8⟩ : ∃ z9 : Nat → va_E, z9 = va_up f6 x (eO 7 fs7) := ⟨_, rfl⟩
  rw [← ef8] at hw
  have eL8 : L6 = L6 := rfl
  have hf8 : ∀ q : Nat, q ≠ x → f8 q = f6 q := fun q hne => by rw [ef8]; exact va_up_ne _ _ hne
  have hof8 : ∀ q ∈ L, q ≠ x → f8 q = f q := fun q h hne => (hf8 q hne).trans (hof6 q h hne)
  have h8_co : f8 co = eII G 80 (fun i => if i < 80 then some (cr i) else none) := (hf8 _ nx_co).trans h6_co
  have h8_fn : f8 fn = eI G 10 (fun _ => 0) := (hf8 _ nx_fn).trans hv_fn
  have hr8 : ∀ j, j < 80 → f8 (cr j) = eI G 11 (fun _ => 0) := fun j hj => (hf8 _ (nrx j hj)).trans (hr6 j hj)
  have h8_x : f8 x = eO 7 fs7 := by rw [ef8]; exact va_up_eq _ _ _
  refine lv_aload_n hx hb dX7_init_29 rfl (lv_at hl 0 rfl) ?_
  refine lv_bipush (v := nI 10) hx hb dX7_init_30 (by decide) ?_
  refine k_newI hx hb hts u_200 hw 10 (by decide) (by decide) (by decide) dX7_init_32 (fun fm H hq_fm hw => ?_)
  obtain ⟨L9, eL9⟩ : ∃ z : List Nat, z = L6 ++ [fm] := ⟨_, rfl⟩
  obtain ⟨f9, ef9⟩ : ∃ z : Nat → va_E, z = va_up f8 fm (eI G 10 (fun _ => 0)) := ⟨_, rfl⟩
  rw [← eL9, ← ef9] at hw
  have hm9 : ∀ q ∈ L6, q ∈ L9 := fun q h => by rw [eL9]; exact List.mem_append_left _ h
  have hf9 : ∀ q ∈ L6, True → f9 q = f8 q := fun q h hne => by rw [ef9]; exact va_up_ne _ _ (fun h9 => hq_fm (by rw [← h9]; exact h))
  have hsub9 : ∀ q ∈ L, q ∈ L9 := fun q h => hm9 q (hsub6 q h)
  have hof9 : ∀ q ∈ L, q ≠ x → f9 q = f q := fun q h hne => (hf9 q (hsub6 q h) trivial).trans (hof8 q h hne)
  have m9_x : x ∈ L9 := hm9 _ m6_x
  have h9_x : f9 x = eO 7 fs7 := (hf9 _ m6_x trivial).trans h8_x
  have m9_co : co ∈ L9 := hm9 _ m6_co
  have h9_co : f9 co = eII G 80 (fun i => if i < 80 then some (cr i) else none) := (hf9 _ m6_co trivial).trans h8_co
  have m9_fn : fn ∈ L9 := hm9 _ mq_fn
  have h9_fn : f9 fn = eI G 10 (fun _ => 0) := (hf9 _ mq_fn trivial).trans h8_fn
  have mr9 : ∀ j, j < 80 → cr j ∈ L9 := fun j hj => hm9 _ (mr6 j hj)
  have hr9 : ∀ j, j < 80 → f9 (cr j) = eI G 11 (fun _ => 0) := fun j hj => (hf9 _ (mr6 j hj) trivial).trans (hr8 j hj)
  have mq_fm : fm ∈ L9 := by rw [eL9]; exact List.mem_append_right _ (List.mem_singleton.mpr rfl)
  have hv_fm : f9 fm = eI G 10 (fun _ => 0) := by rw [ef9]; exact va_up_eq _ _ _
  have nx_fm : fm ≠ x := fun h9 => hq_fm (by rw [h9]; exact m6_x)
  have nn_x_fm : x ≠ fm := fun h9 => hq_fm (by rw [← h9]; exact m6_x)
  have nn_co_fm : co ≠ fm := fun h9 => hq_fm (by rw [← h9]; exact m6_co)
  have nn_fn_fm : fn ≠ fm := fun h9 => hq_fm (by rw [← h9]; exact mq_fn)
  have nl_fm : fm ∉ L := fun h9 => hq_fm (hsub6 _ h9)
  have nr_fm : ∀ j, j < 80 → cr j ≠ fm := fun j hj h9 => hq_fm (by rw [← h9]; exact mr6 j hj)
  refine k_putF (own := RX7) (C := RX7) (T := TX7) (N := 15) (ci := 7) (ty := (.array .int)) (v := .ref fm) hx hb hts inX7_u tyX7 tyX7_ok nmX7 hown hw m9_x h9_x rfl 3 (by decide) u_221 rfl rfl hin (by decide +kernel) rfl rfl (by rw [hlen7]; decide) dX7_init_34 (fun H locs hw => ?_)
  obtain ⟨fs10, hz10⟩ : ∃ zz9, zz9 = fs7.set 3 (.ref fm) := ⟨_, rfl⟩
  rw [← hz10] at hw
  have hlen10 : fs10.length = 15 := by rw [hz10, List.length_set]; exact hlen7
  have g10_0 : fs10[0]? = some (.ref co) := by rw [hz10, List.getElem?_set_ne (by decide)]; exact g7_0
  have g10_1 : fs10[1]? = some (.int (nI 0)) := by rw [hz10, List.getElem?_set_ne (by decide)]; exact g7_1
  have g10_2 : fs10[2]? = some (.ref fn) := by rw [hz10, List.getElem?_set_ne (by decide)]; exact g7_2
  have g10_3 : fs10[3]? = some (.ref fm) := by rw [hz10, List.getElem?_set_self (by rw [hlen7]; decide)]
  obtain ⟨f11, ef11⟩ : ∃ z9 : Nat → va_E, z9 = va_up f9 x (eO 7 fs10) := ⟨_, rfl⟩
  rw [← ef11] at hw
  have eL11 : L9 = L9 := rfl
  have hf11 : ∀ q : Nat, q ≠ x → f11 q = f9 q := fun q hne => by rw [ef11]; exact va_up_ne _ _ hne
  have hof11 : ∀ q ∈ L, q ≠ x → f11 q = f q := fun q h hne => (hf11 q hne).trans (hof9 q h hne)
  have h11_co : f11 co = eII G 80 (fun i => if i < 80 then some (cr i) else none) := (hf11 _ nx_co).trans h9_co
  have h11_fn : f11 fn = eI G 10 (fun _ => 0) := (hf11 _ nx_fn).trans h9_fn
  have h11_fm : f11 fm = eI G 10 (fun _ => 0) := (hf11 _ nx_fm).trans hv_fm
  have hr11 : ∀ j, j < 80 → f11 (cr j) = eI G 11 (fun _ => 0) := fun j hj => (hf11 _ (nrx j hj)).trans (hr9 j hj)
  have h11_x : f11 x = eO 7 fs10 := by rw [ef11]; exact va_up_eq _ _ _
  refine lv_aload_n hx hb dX7_init_37 rfl (lv_at hl 0 rfl) ?_
  refine lv_iconst (v := nI 0) hx hb dX7_init_38 (by decide) ?_
  refine w_put (C := RX7) (T := TX7) (N := 15) (ci := 7) (ref := "LiftFactors") (ty := .int) (v := .int (nI 0)) hx hb hts inX7_u tyX7 tyX7_ok nmX7 hown hw m9_x h11_x rfl 4 (by decide) u_97 rfl rfl (by decide +kernel) rfl rfl (by rw [hlen10]; decide) dX7_init_39 (fun H locs hw => ?_)
  obtain ⟨fs12, hz12⟩ : ∃ zz9, zz9 = fs10.set 4 (.int (nI 0)) := ⟨_, rfl⟩
  rw [← hz12] at hw
  have hlen12 : fs12.length = 15 := by rw [hz12, List.length_set]; exact hlen10
  have g12_0 : fs12[0]? = some (.ref co) := by rw [hz12, List.getElem?_set_ne (by decide)]; exact g10_0
  have g12_1 : fs12[1]? = some (.int (nI 0)) := by rw [hz12, List.getElem?_set_ne (by decide)]; exact g10_1
  have g12_2 : fs12[2]? = some (.ref fn) := by rw [hz12, List.getElem?_set_ne (by decide)]; exact g10_2
  have g12_3 : fs12[3]? = some (.ref fm) := by rw [hz12, List.getElem?_set_ne (by decide)]; exact g10_3
  have g12_4 : fs12[4]? = some (.int (nI 0)) := by rw [hz12, List.getElem?_set_self (by rw [hlen10]; decide)]
  obtain ⟨f13, ef13⟩ : ∃ z9 : Nat → va_E, z9 = va_up f11 x (eO 7 fs12) := ⟨_, rfl⟩
  rw [← ef13] at hw
  have eL13 : L9 = L9 := rfl
  have hf13 : ∀ q : Nat, q ≠ x → f13 q = f11 q := fun q hne => by rw [ef13]; exact va_up_ne _ _ hne
  have hof13 : ∀ q ∈ L, q ≠ x → f13 q = f q := fun q h hne => (hf13 q hne).trans (hof11 q h hne)
  have h13_co : f13 co = eII G 80 (fun i => if i < 80 then some (cr i) else none) := (hf13 _ nx_co).trans h11_co
  have h13_fn : f13 fn = eI G 10 (fun _ => 0) := (hf13 _ nx_fn).trans h11_fn
  have h13_fm : f13 fm = eI G 10 (fun _ => 0) := (hf13 _ nx_fm).trans h11_fm
  have hr13 : ∀ j, j < 80 → f13 (cr j) = eI G 11 (fun _ => 0) := fun j hj => (hf13 _ (nrx j hj)).trans (hr11 j hj)
  have h13_x : f13 x = eO 7 fs12 := by rw [ef13]; exact va_up_eq _ _ _
  refine lv_aload_n hx hb dX7_init_42 rfl (lv_at hl 0 rfl) ?_
  refine lv_bipush (v := nI 11) hx hb dX7_init_43 (by decide) ?_
  refine k_newJ hx hb hts u_177 hw 11 (by decide) (by decide) (by decide) dX7_init_45 (fun b1 H hq_b1 hw => ?_)
  obtain ⟨L14, eL14⟩ : ∃ z : List Nat, z = L9 ++ [b1] := ⟨_, rfl⟩
  obtain ⟨f14, ef14⟩ : ∃ z : Nat → va_E, z = va_up f13 b1 (eJ G 11 (fun _ => 0)) := ⟨_, rfl⟩
  rw [← eL14, ← ef14] at hw
  have hm14 : ∀ q ∈ L9, q ∈ L14 := fun q h => by rw [eL14]; exact List.mem_append_left _ h
  have hf14 : ∀ q ∈ L9, True → f14 q = f13 q := fun q h hne => by rw [ef14]; exact va_up_ne _ _ (fun h9 => hq_b1 (by rw [← h9]; exact h))
  have hsub14 : ∀ q ∈ L, q ∈ L14 := fun q h => hm14 q (hsub9 q h)
  have hof14 : ∀ q ∈ L, q ≠ x → f14 q = f q := fun q h hne => (hf14 q (hsub9 q h) trivial).trans (hof13 q h hne)
  have m14_x : x ∈ L14 := hm14 _ m9_x
  have h14_x : f14 x = eO 7 fs12 := (hf14 _ m9_x trivial).trans h13_x
  have m14_co : co ∈ L14 := hm14 _ m9_co
  have h14_co : f14 co = eII G 80 (fun i => if i < 80 then some (cr i) else none) := (hf14 _ m9_co trivial).trans h13_co
  have m14_fn : fn ∈ L14 := hm14 _ m9_fn
  have h14_fn : f14 fn = eI G 10 (fun _ => 0) := (hf14 _ m9_fn trivial).trans h13_fn
  have m14_fm : fm ∈ L14 := hm14 _ mq_fm
  have h14_fm : f14 fm = eI G 10 (fun _ => 0) := (hf14 _ mq_fm trivial).trans h13_fm
  have mr14 : ∀ j, j < 80 → cr j ∈ L14 := fun j hj => hm14 _ (mr9 j hj)
  have hr14 : ∀ j, j < 80 → f14 (cr j) = eI G 11 (fun _ => 0) := fun j hj => (hf14 _ (mr9 j hj) trivial).trans (hr13 j hj)
  have mq_b1 : b1 ∈ L14 := by rw [eL14]; exact List.mem_append_right _ (List.mem_singleton.mpr rfl)
  have hv_b1 : f14 b1 = eJ G 11 (fun _ => 0) := by rw [ef14]; exact va_up_eq _ _ _
  have nx_b1 : b1 ≠ x := fun h9 => hq_b1 (by rw [h9]; exact m9_x)
  have nn_x_b1 : x ≠ b1 := fun h9 => hq_b1 (by rw [← h9]; exact m9_x)
  have nn_co_b1 : co ≠ b1 := fun h9 => hq_b1 (by rw [← h9]; exact m9_co)
  have nn_fn_b1 : fn ≠ b1 := fun h9 => hq_b1 (by rw [← h9]; exact m9_fn)
  have nn_fm_b1 : fm ≠ b1 := fun h9 => hq_b1 (by rw [← h9]; exact mq_fm)
  have nl_b1 : b1 ∉ L := fun h9 => hq_b1 (hsub9 _ h9)
  have nr_b1 : ∀ j, j < 80 → cr j ≠ b1 := fun j hj h9 => hq_b1 (by rw [← h9]; exact mr9 j hj)
  refine k_putF (own := RX7) (C := RX7) (T := TX7) (N := 15) (ci := 7) (ty := (.array .long)) (v := .ref b1) hx hb hts inX7_u tyX7 tyX7_ok nmX7 hown hw m14_x h14_x rfl 5 (by decide) u_102 rfl rfl hin (by decide +kernel) rfl rfl (by rw [hlen12]; decide) dX7_init_47 (fun H locs hw => ?_)
  obtain ⟨fs15, hz15⟩ : ∃ zz9, zz9 = fs12.set 5 (.ref b1) := ⟨_, rfl⟩
  rw [← hz15] at hw
  have hlen15 : fs15.length = 15 := by rw [hz15, List.length_set]; exact hlen12
  have g15_0 : fs15[0]? = some (.ref co) := by rw [hz15, List.getElem?_set_ne (by decide)]; exact g12_0
  have g15_1 : fs15[1]? = some (.int (nI 0)) := by rw [hz15, List.getElem?_set_ne (by decide)]; exact g12_1
  have g15_2 : fs15[2]? = some (.ref fn) := by rw [hz15, List.getElem?_set_ne (by decide)]; exact g12_2
  have g15_3 : fs15[3]? = some (.ref fm) := by rw [hz15, List.getElem?_set_ne (by decide)]; exact g12_3
  have g15_4 : fs15[4]? = some (.int (nI 0)) := by rw [hz15, List.getElem?_set_ne (by decide)]; exact g12_4
  have g15_5 : fs15[5]? = some (.ref b1) := by rw [hz15, List.getElem?_set_self (by rw [hlen12]; decide)]
  obtain ⟨f16, ef16⟩ : ∃ z9 : Nat → va_E, z9 = va_up f14 x (eO 7 fs15) := ⟨_, rfl⟩
  rw [← ef16] at hw
  have eL16 : L14 = L14 := rfl
  have hf16 : ∀ q : Nat, q ≠ x → f16 q = f14 q := fun q hne => by rw [ef16]; exact va_up_ne _ _ hne
  have hof16 : ∀ q ∈ L, q ≠ x → f16 q = f q := fun q h hne => (hf16 q hne).trans (hof14 q h hne)
  have h16_co : f16 co = eII G 80 (fun i => if i < 80 then some (cr i) else none) := (hf16 _ nx_co).trans h14_co
  have h16_fn : f16 fn = eI G 10 (fun _ => 0) := (hf16 _ nx_fn).trans h14_fn
  have h16_fm : f16 fm = eI G 10 (fun _ => 0) := (hf16 _ nx_fm).trans h14_fm
  have h16_b1 : f16 b1 = eJ G 11 (fun _ => 0) := (hf16 _ nx_b1).trans hv_b1
  have hr16 : ∀ j, j < 80 → f16 (cr j) = eI G 11 (fun _ => 0) := fun j hj => (hf16 _ (nrx j hj)).trans (hr14 j hj)
  have h16_x : f16 x = eO 7 fs15 := by rw [ef16]; exact va_up_eq _ _ _
  refine lv_aload_n hx hb dX7_init_50 rfl (lv_at hl 0 rfl) ?_
  refine lv_bipush (v := nI 11) hx hb dX7_init_51 (by decide) ?_
  refine k_newJ hx hb hts u_177 hw 11 (by decide) (by decide) (by decide) dX7_init_53 (fun b2 H hq_b2 hw => ?_)
  obtain ⟨L17, eL17⟩ : ∃ z : List Nat, z = L14 ++ [b2] := ⟨_, rfl⟩
  obtain ⟨f17, ef17⟩ : ∃ z : Nat → va_E, z = va_up f16 b2 (eJ G 11 (fun _ => 0)) := ⟨_, rfl⟩
  rw [← eL17, ← ef17] at hw
  have hm17 : ∀ q ∈ L14, q ∈ L17 := fun q h => by rw [eL17]; exact List.mem_append_left _ h
  have hf17 : ∀ q ∈ L14, True → f17 q = f16 q := fun q h hne => by rw [ef17]; exact va_up_ne _ _ (fun h9 => hq_b2 (by rw [← h9]; exact h))
  have hsub17 : ∀ q ∈ L, q ∈ L17 := fun q h => hm17 q (hsub14 q h)
  have hof17 : ∀ q ∈ L, q ≠ x → f17 q = f q := fun q h hne => (hf17 q (hsub14 q h) trivial).trans (hof16 q h hne)
  have m17_x : x ∈ L17 := hm17 _ m14_x
  have h17_x : f17 x = eO 7 fs15 := (hf17 _ m14_x trivial).trans h16_x
  have m17_co : co ∈ L17 := hm17 _ m14_co
  have h17_co : f17 co = eII G 80 (fun i => if i < 80 then some (cr i) else none) := (hf17 _ m14_co trivial).trans h16_co
  have m17_fn : fn ∈ L17 := hm17 _ m14_fn
  have h17_fn : f17 fn = eI G 10 (fun _ => 0) := (hf17 _ m14_fn trivial).trans h16_fn
  have m17_fm : fm ∈ L17 := hm17 _ m14_fm
  have h17_fm : f17 fm = eI G 10 (fun _ => 0) := (hf17 _ m14_fm trivial).trans h16_fm
  have m17_b1 : b1 ∈ L17 := hm17 _ mq_b1
  have h17_b1 : f17 b1 = eJ G 11 (fun _ => 0) := (hf17 _ mq_b1 trivial).trans h16_b1
  have mr17 : ∀ j, j < 80 → cr j ∈ L17 := fun j hj => hm17 _ (mr14 j hj)
  have hr17 : ∀ j, j < 80 → f17 (cr j) = eI G 11 (fun _ => 0) := fun j hj => (hf17 _ (mr14 j hj) trivial).trans (hr16 j hj)
  have mq_b2 : b2 ∈ L17 := by rw [eL17]; exact List.mem_append_right _ (List.mem_singleton.mpr rfl)
  have hv_b2 : f17 b2 = eJ G 11 (fun _ => 0) := by rw [ef17]; exact va_up_eq _ _ _
  have nx_b2 : b2 ≠ x := fun h9 => hq_b2 (by rw [h9]; exact m14_x)
  have nn_x_b2 : x ≠ b2 := fun h9 => hq_b2 (by rw [← h9]; exact m14_x)
  have nn_co_b2 : co ≠ b2 := fun h9 => hq_b2 (by rw [← h9]; exact m14_co)
  have nn_fn_b2 : fn ≠ b2 := fun h9 => hq_b2 (by rw [← h9]; exact m14_fn)
  have nn_fm_b2 : fm ≠ b2 := fun h9 => hq_b2 (by rw [← h9]; exact m14_fm)
  have nn_b1_b2 : b1 ≠ b2 := fun h9 => hq_b2 (by rw [← h9]; exact mq_b1)
  have nl_b2 : b2 ∉ L := fun h9 => hq_b2 (hsub14 _ h9)
  have nr_b2 : ∀ j, j < 80 → cr j ≠ b2 := fun j hj h9 => hq_b2 (by rw [← h9]; exact mr14 j hj)
  refine k_putF (own := RX7) (C := RX7) (T := TX7) (N := 15) (ci := 7) (ty := (.array .long)) (v := .ref b2) hx hb hts inX7_u tyX7 tyX7_ok nmX7 hown hw m17_x h17_x rfl 6 (by decide) u_142 rfl rfl hin (by decide +kernel) rfl rfl (by rw [hlen15]; decide) dX7_init_55 (fun H locs hw => ?_)
  obtain ⟨fs18, hz18⟩ : ∃ zz9, zz9 = fs15.set 6 (.ref b2) := ⟨_, rfl⟩
  rw [← hz18] at hw
  have hlen18 : fs18.length = 15 := by rw [hz18, List.length_set]; exact hlen15
  have g18_0 : fs18[0]? = some (.ref co) := by rw [hz18, List.getElem?_set_ne (by decide)]; exact g15_0
  have g18_1 : fs18[1]? = some (.int (nI 0)) := by rw [hz18, List.getElem?_set_ne (by decide)]; exact g15_1
  have g18_2 : fs18[2]? = some (.ref fn) := by rw [hz18, List.getElem?_set_ne (by decide)]; exact g15_2
  have g18_3 : fs18[3]? = some (.ref fm) := by rw [hz18, List.getElem?_set_ne (by decide)]; exact g15_3
  have g18_4 : fs18[4]? = some (.int (nI 0)) := by rw [hz18, List.getElem?_set_ne (by decide)]; exact g15_4
  have g18_5 : fs18[5]? = some (.ref b1) := by rw [hz18, List.getElem?_set_ne (by decide)]; exact g15_5
  have g18_6 : fs18[6]? = some (.ref b2) := by rw [hz18, List.getElem?_set_self (by rw [hlen15]; decide)]
  obtain ⟨f19, ef19⟩ : ∃ z9 : Nat → va_E, z9 = va_up f17 x (eO 7 fs18) := ⟨_, rfl⟩
  rw [← ef19] at hw
  have eL19 : L17 = L17 := rfl
  have hf19 : ∀ q : Nat, q ≠ x → f19 q = f17 q := fun q hne => by rw [ef19]; exact va_up_ne _ _ hne
  have hof19 : ∀ q ∈ L, q ≠ x → f19 q = f q := fun q h hne => (hf19 q hne).trans (hof17 q h hne)
  have h19_co : f19 co = eII G 80 (fun i => if i < 80 then some (cr i) else none) := (hf19 _ nx_co).trans h17_co
  have h19_fn : f19 fn = eI G 10 (fun _ => 0) := (hf19 _ nx_fn).trans h17_fn
  have h19_fm : f19 fm = eI G 10 (fun _ => 0) := (hf19 _ nx_fm).trans h17_fm
  have h19_b1 : f19 b1 = eJ G 11 (fun _ => 0) := (hf19 _ nx_b1).trans h17_b1
  have h19_b2 : f19 b2 = eJ G 11 (fun _ => 0) := (hf19 _ nx_b2).trans hv_b2
  have hr19 : ∀ j, j < 80 → f19 (cr j) = eI G 11 (fun _ => 0) := fun j hj => (hf19 _ (nrx j hj)).trans (hr17 j hj)
  have h19_x : f19 x = eO 7 fs18 := by rw [ef19]; exact va_up_eq _ _ _
  refine lv_aload_n hx hb dX7_init_58 rfl (lv_at hl 0 rfl) ?_
  refine lv_bipush (v := nI 11) hx hb dX7_init_59 (by decide) ?_
  refine k_newJ hx hb hts u_177 hw 11 (by decide) (by decide) (by decide) dX7_init_61 (fun b3 H hq_b3 hw => ?_)
  obtain ⟨L20, eL20⟩ : ∃ z : List Nat, z = L17 ++ [b3] := ⟨_, rfl⟩
  obtain ⟨f20, ef20⟩ : ∃ z : Nat → va_E, z = va_up f19 b3 (eJ G 11 (fun _ => 0)) := ⟨_, rfl⟩
  rw [← eL20, ← ef20] at hw
  have hm20 : ∀ q ∈ L17, q ∈ L20 := fun q h => by rw [eL20]; exact List.mem_append_left _ h
  have hf20 : ∀ q ∈ L17, True → f20 q = f19 q := fun q h hne => by rw [ef20]; exact va_up_ne _ _ (fun h9 => hq_b3 (by rw [← h9]; exact h))
  have hsub20 : ∀ q ∈ L, q ∈ L20 := fun q h => hm20 q (hsub17 q h)
  have hof20 : ∀ q ∈ L, q ≠ x → f20 q = f q := fun q h hne => (hf20 q (hsub17 q h) trivial).trans (hof19 q h hne)
  have m20_x : x ∈ L20 := hm20 _ m17_x
  have h20_x : f20 x = eO 7 fs18 := (hf20 _ m17_x trivial).trans h19_x
  have m20_co : co ∈ L20 := hm20 _ m17_co
  have h20_co : f20 co = eII G 80 (fun i => if i < 80 then some (cr i) else none) := (hf20 _ m17_co trivial).trans h19_co
  have m20_fn : fn ∈ L20 := hm20 _ m17_fn
  have h20_fn : f20 fn = eI G 10 (fun _ => 0) := (hf20 _ m17_fn trivial).trans h19_fn
  have m20_fm : fm ∈ L20 := hm20 _ m17_fm
  have h20_fm : f20 fm = eI G 10 (fun _ => 0) := (hf20 _ m17_fm trivial).trans h19_fm
  have m20_b1 : b1 ∈ L20 := hm20 _ m17_b1
  have h20_b1 : f20 b1 = eJ G 11 (fun _ => 0) := (hf20 _ m17_b1 trivial).trans h19_b1
  have m20_b2 : b2 ∈ L20 := hm20 _ mq_b2
  have h20_b2 : f20 b2 = eJ G 11 (fun _ => 0) := (hf20 _ mq_b2 trivial).trans h19_b2
  have mr20 : ∀ j, j < 80 → cr j ∈ L20 := fun j hj => hm20 _ (mr17 j hj)
  have hr20 : ∀ j, j < 80 → f20 (cr j) = eI G 11 (fun _ => 0) := fun j hj => (hf20 _ (mr17 j hj) trivial).trans (hr19 j hj)
  have mq_b3 : b3 ∈ L20 := by rw [eL20]; exact List.mem_append_right _ (List.mem_singleton.mpr rfl)
  have hv_b3 : f20 b3 = eJ G 11 (fun _ => 0) := by rw [ef20]; exact va_up_eq _ _ _
  have nx_b3 : b3 ≠ x := fun h9 => hq_b3 (by rw [h9]; exact m17_x)
  have nn_x_b3 : x ≠ b3 := fun h9 => hq_b3 (by rw [← h9]; exact m17_x)
  have nn_co_b3 : co ≠ b3 := fun h9 => hq_b3 (by rw [← h9]; exact m17_co)
  have nn_fn_b3 : fn ≠ b3 := fun h9 => hq_b3 (by rw [← h9]; exact m17_fn)
  have nn_fm_b3 : fm ≠ b3 := fun h9 => hq_b3 (by rw [← h9]; exact m17_fm)
  have nn_b1_b3 : b1 ≠ b3 := fun h9 => hq_b3 (by rw [← h9]; exact m17_b1)
  have nn_b2_b3 : b2 ≠ b3 := fun h9 => hq_b3 (by rw [← h9]; exact mq_b2)
  have nl_b3 : b3 ∉ L := fun h9 => hq_b3 (hsub17 _ h9)
  have nr_b3 : ∀ j, j < 80 → cr j ≠ b3 := fun j hj h9 => hq_b3 (by rw [← h9]; exact mr17 j hj)
  refine k_putF (own := RX7) (C := RX7) (T := TX7) (N := 15) (ci := 7) (ty := (.array .long)) (v := .ref b3) hx hb hts inX7_u tyX7 tyX7_ok nmX7 hown hw m20_x h20_x rfl 7 (by decide) u_120 rfl rfl hin (by decide +kernel) rfl rfl (by rw [hlen18]; decide) dX7_init_63 (fun H locs hw => ?_)
  obtain ⟨fs21, hz21⟩ : ∃ zz9, zz9 = fs18.set 7 (.ref b3) := ⟨_, rfl⟩
  rw [← hz21] at hw
  have hlen21 : fs21.length = 15 := by rw [hz21, List.length_set]; exact hlen18
  have g21_0 : fs21[0]? = some (.ref co) := by rw [hz21, List.getElem?_set_ne (by decide)]; exact g18_0
  have g21_1 : fs21[1]? = some (.int (nI 0)) := by rw [hz21, List.getElem?_set_ne (by decide)]; exact g18_1
  have g21_2 : fs21[2]? = some (.ref fn) := by rw [hz21, List.getElem?_set_ne (by decide)]; exact g18_2
  have g21_3 : fs21[3]? = some (.ref fm) := by rw [hz21, List.getElem?_set_ne (by decide)]; exact g18_3
  have g21_4 : fs21[4]? = some (.int (nI 0)) := by rw [hz21, List.getElem?_set_ne (by decide)]; exact g18_4
  have g21_5 : fs21[5]? = some (.ref b1) := by rw [hz21, List.getElem?_set_ne (by decide)]; exact g18_5
  have g21_6 : fs21[6]? = some (.ref b2) := by rw [hz21, List.getElem?_set_ne (by decide)]; exact g18_6
  have g21_7 : fs21[7]? = some (.ref b3) := by rw [hz21, List.getElem?_set_self (by rw [hlen18]; decide)]
  obtain ⟨f22, ef22⟩ : ∃ z9 : Nat → va_E, z9 = va_up f20 x (eO 7 fs21) := ⟨_, rfl⟩
  rw [← ef22] at hw
  have eL22 : L20 = L20 := rfl
  have hf22 : ∀ q : Nat, q ≠ x → f22 q = f20 q := fun q hne => by rw [ef22]; exact va_up_ne _ _ hne
  have hof22 : ∀ q ∈ L, q ≠ x → f22 q = f q := fun q h hne => (hf22 q hne).trans (hof20 q h hne)
  have h22_co : f22 co = eII G 80 (fun i => if i < 80 then some (cr i) else none) := (hf22 _ nx_co).trans h20_co
  have h22_fn : f22 fn = eI G 10 (fun _ => 0) := (hf22 _ nx_fn).trans h20_fn
  have h22_fm : f22 fm = eI G 10 (fun _ => 0) := (hf22 _ nx_fm).trans h20_fm
  have h22_b1 : f22 b1 = eJ G 11 (fun _ => 0) := (hf22 _ nx_b1).trans h20_b1
  have h22_b2 : f22 b2 = eJ G 11 (fun _ => 0) := (hf22 _ nx_b2).trans h20_b2
  have h22_b3 : f22 b3 = eJ G 11 (fun _ => 0) := (hf22 _ nx_b3).trans hv_b3
  have hr22 : ∀ j, j < 80 → f22 (cr j) = eI G 11 (fun _ => 0) := fun j hj => (hf22 _ (nrx j hj)).trans (hr20 j hj)
  have h22_x : f22 x = eO 7 fs21 := by rw [ef22]; exact va_up_eq _ _ _
  refine lv_aload_n hx hb dX7_init_66 rfl (lv_at hl 0 rfl) ?_
  refine lv_bipush (v := nI 21) hx hb dX7_init_67 (by decide) ?_
  refine k_newJ hx hb hts u_177 hw 21 (by decide) (by decide) (by decide) dX7_init_69 (fun b4 H hq_b4 hw => ?_)
  obtain ⟨L23, eL23⟩ : ∃ z : List Nat, z = L20 ++ [b4] := ⟨_, rfl⟩
  obtain ⟨f23, ef23⟩ : ∃ z : Nat → va_E, z = va_up f22 b4 (eJ G 21 (fun _ => 0)) := ⟨_, rfl⟩
  rw [← eL23, ← ef23] at hw
  have hm23 : ∀ q ∈ L20, q ∈ L23 := fun q h => by rw [eL23]; exact List.mem_append_left _ h
  have hf23 : ∀ q ∈ L20, True → f23 q = f22 q := fun q h hne => by rw [ef23]; exact va_up_ne _ _ (fun h9 => hq_b4 (by rw [← h9]; exact h))
  have hsub23 : ∀ q ∈ L, q ∈ L23 := fun q h => hm23 q (hsub20 q h)
  have hof23 : ∀ q ∈ L, q ≠ x → f23 q = f q := fun q h hne => (hf23 q (hsub20 q h) trivial).trans (hof22 q h hne)
  have m23_x : x ∈ L23 := hm23 _ m20_x
  have h23_x : f23 x = eO 7 fs21 := (hf23 _ m20_x trivial).trans h22_x
  have m23_co : co ∈ L23 := hm23 _ m20_co
  have h23_co : f23 co = eII G 80 (fun i => if i < 80 then some (cr i) else none) := (hf23 _ m20_co trivial).trans h22_co
  have m23_fn : fn ∈ L23 := hm23 _ m20_fn
  have h23_fn : f23 fn = eI G 10 (fun _ => 0) := (hf23 _ m20_fn trivial).trans h22_fn
  have m23_fm : fm ∈ L23 := hm23 _ m20_fm
  have h23_fm : f23 fm = eI G 10 (fun _ => 0) := (hf23 _ m20_fm trivial).trans h22_fm
  have m23_b1 : b1 ∈ L23 := hm23 _ m20_b1
  have h23_b1 : f23 b1 = eJ G 11 (fun _ => 0) := (hf23 _ m20_b1 trivial).trans h22_b1
  have m23_b2 : b2 ∈ L23 := hm23 _ m20_b2
  have h23_b2 : f23 b2 = eJ G 11 (fun _ => 0) := (hf23 _ m20_b2 trivial).trans h22_b2
  have m23_b3 : b3 ∈ L23 := hm23 _ mq_b3
  have h23_b3 : f23 b3 = eJ G 11 (fun _ => 0) := (hf23 _ mq_b3 trivial).trans h22_b3
  have mr23 : ∀ j, j < 80 → cr j ∈ L23 := fun j hj => hm23 _ (mr20 j hj)
  have hr23 : ∀ j, j < 80 → f23 (cr j) = eI G 11 (fun _ => 0) := fun j hj => (hf23 _ (mr20 j hj) trivial).trans (hr22 j hj)
  have mq_b4 : b4 ∈ L23 := by rw [eL23]; exact List.mem_append_right _ (List.mem_singleton.mpr rfl)
  have hv_b4 : f23 b4 = eJ G 21 (fun _ => 0) := by rw [ef23]; exact va_up_eq _ _ _
  have nx_b4 : b4 ≠ x := fun h9 => hq_b4 (by rw [h9]; exact m20_x)
  have nn_x_b4 : x ≠ b4 := fun h9 => hq_b4 (by rw [← h9]; exact m20_x)
  have nn_co_b4 : co ≠ b4 := fun h9 => hq_b4 (by rw [← h9]; exact m20_co)
  have nn_fn_b4 : fn ≠ b4 := fun h9 => hq_b4 (by rw [← h9]; exact m20_fn)
  have nn_fm_b4 : fm ≠ b4 := fun h9 => hq_b4 (by rw [← h9]; exact m20_fm)
  have nn_b1_b4 : b1 ≠ b4 := fun h9 => hq_b4 (by rw [← h9]; exact m20_b1)
  have nn_b2_b4 : b2 ≠ b4 := fun h9 => hq_b4 (by rw [← h9]; exact m20_b2)
  have nn_b3_b4 : b3 ≠ b4 := fun h9 => hq_b4 (by rw [← h9]; exact mq_b3)
  have nl_b4 : b4 ∉ L := fun h9 => hq_b4 (hsub20 _ h9)
  have nr_b4 : ∀ j, j < 80 → cr j ≠ b4 := fun j hj h9 => hq_b4 (by rw [← h9]; exact mr20 j hj)
  refine k_putF (own := RX7) (C := RX7) (T := TX7) (N := 15) (ci := 7) (ty := (.array .long)) (v := .ref b4) hx hb hts inX7_u tyX7 tyX7_ok nmX7 hown hw m23_x h23_x rfl 8 (by decide) u_157 rfl rfl hin (by decide +kernel) rfl rfl (by rw [hlen21]; decide) dX7_init_71 (fun H locs hw => ?_)
  obtain ⟨fs24, hz24⟩ : ∃ zz9, zz9 = fs21.set 8 (.ref b4) := ⟨_, rfl⟩
  rw [← hz24] at hw
  have hlen24 : fs24.length = 15 := by rw [hz24, List.length_set]; exact hlen21
  have g24_0 : fs24[0]? = some (.ref co) := by rw [hz24, List.getElem?_set_ne (by decide)]; exact g21_0
  have g24_1 : fs24[1]? = some (.int (nI 0)) := by rw [hz24, List.getElem?_set_ne (by decide)]; exact g21_1
  have g24_2 : fs24[2]? = some (.ref fn) := by rw [hz24, List.getElem?_set_ne (by decide)]; exact g21_2
  have g24_3 : fs24[3]? = some (.ref fm) := by rw [hz24, List.getElem?_set_ne (by decide)]; exact g21_3
  have g24_4 : fs24[4]? = some (.int (nI 0)) := by rw [hz24, List.getElem?_set_ne (by decide)]; exact g21_4
  have g24_5 : fs24[5]? = some (.ref b1) := by rw [hz24, List.getElem?_set_ne (by decide)]; exact g21_5
  have g24_6 : fs24[6]? = some (.ref b2) := by rw [hz24, List.getElem?_set_ne (by decide)]; exact g21_6
  have g24_7 : fs24[7]? = some (.ref b3) := by rw [hz24, List.getElem?_set_ne (by decide)]; exact g21_7
  have g24_8 : fs24[8]? = some (.ref b4) := by rw [hz24, List.getElem?_set_self (by rw [hlen21]; decide)]
  obtain ⟨f25, ef25⟩ : ∃ z9 : Nat → va_E, z9 = va_up f23 x (eO 7 fs24) := ⟨_, rfl⟩
  rw [← ef25] at hw
  have eL25 : L23 = L23 := rfl
  have hf25 : ∀ q : Nat, q ≠ x → f25 q = f23 q := fun q hne => by rw [ef25]; exact va_up_ne _ _ hne
  have hof25 : ∀ q ∈ L, q ≠ x → f25 q = f q := fun q h hne => (hf25 q hne).trans (hof23 q h hne)
  have h25_co : f25 co = eII G 80 (fun i => if i < 80 then some (cr i) else none) := (hf25 _ nx_co).trans h23_co
  have h25_fn : f25 fn = eI G 10 (fun _ => 0) := (hf25 _ nx_fn).trans h23_fn
  have h25_fm : f25 fm = eI G 10 (fun _ => 0) := (hf25 _ nx_fm).trans h23_fm
  have h25_b1 : f25 b1 = eJ G 11 (fun _ => 0) := (hf25 _ nx_b1).trans h23_b1
  have h25_b2 : f25 b2 = eJ G 11 (fun _ => 0) := (hf25 _ nx_b2).trans h23_b2
  have h25_b3 : f25 b3 = eJ G 11 (fun _ => 0) := (hf25 _ nx_b3).trans h23_b3
  have h25_b4 : f25 b4 = eJ G 21 (fun _ => 0) := (hf25 _ nx_b4).trans hv_b4
  have hr25 : ∀ j, j < 80 → f25 (cr j) = eI G 11 (fun _ => 0) := fun j hj => (hf25 _ (nrx j hj)).trans (hr23 j hj)
  have h25_x : f25 x = eO 7 fs24 := by rw [ef25]; exact va_up_eq _ _ _
  refine lv_aload_n hx hb dX7_init_74 rfl (lv_at hl 0 rfl) ?_
  refine k_new (own := RX7) (C := RX3) (T := TX3) (N := 5) (ci := 4) hx hb hts inX3_u tyX3 tyX3_ok hown u_222 u_223 u_224 hw rfl [.long 0, .null, .null, .null, .null] (by decide +kernel) (by decide) (by decide) dX7_init_75 (fun o1 H hq_o1 hw => ?_)
  obtain ⟨L26, eL26⟩ : ∃ z : List Nat, z = L23 ++ [o1] := ⟨_, rfl⟩
  obtain ⟨f26, ef26⟩ : ∃ z : Nat → va_E, z = va_up f25 o1 (eO 4 [.long 0, .null, .null, .null, .null]) := ⟨_, rfl⟩
  rw [← eL26, ← ef26] at hw
  have hm26 : ∀ q ∈ L23, q ∈ L26 := fun q h => by rw [eL26]; exact List.mem_append_left _ h
  have hf26 : ∀ q ∈ L23, True → f26 q = f25 q := fun q h hne => by rw [ef26]; exact va_up_ne _ _ (fun h9 => hq_o1 (by rw [← h9]; exact h))
  have hsub26 : ∀ q ∈ L, q ∈ L26 := fun q h => hm26 q (hsub23 q h)
  have hof26 : ∀ q ∈ L, q ≠ x → f26 q = f q := fun q h hne => (hf26 q (hsub23 q h) trivial).trans (hof25 q h hne)
  have m26_x : x ∈ L26 := hm26 _ m23_x
  have h26_x : f26 x = eO 7 fs24 := (hf26 _ m23_x trivial).trans h25_x
  have m26_co : co ∈ L26 := hm26 _ m23_co
  have h26_co : f26 co = eII G 80 (fun i => if i < 80 then some (cr i) else none) := (hf26 _ m23_co trivial).trans h25_co
  have m26_fn : fn ∈ L26 := hm26 _ m23_fn
  have h26_fn : f26 fn = eI G 10 (fun _ => 0) := (hf26 _ m23_fn trivial).trans h25_fn
  have m26_fm : fm ∈ L26 := hm26 _ m23_fm
  have h26_fm : f26 fm = eI G 10 (fun _ => 0) := (hf26 _ m23_fm trivial).trans h25_fm
  have m26_b1 : b1 ∈ L26 := hm26 _ m23_b1
  have h26_b1 : f26 b1 = eJ G 11 (fun _ => 0) := (hf26 _ m23_b1 trivial).trans h25_b1
  have m26_b2 : b2 ∈ L26 := hm26 _ m23_b2
  have h26_b2 : f26 b2 = eJ G 11 (fun _ => 0) := (hf26 _ m23_b2 trivial).trans h25_b2
  have m26_b3 : b3 ∈ L26 := hm26 _ m23_b3
  have h26_b3 : f26 b3 = eJ G 11 (fun _ => 0) := (hf26 _ m23_b3 trivial).trans h25_b3
  have m26_b4 : b4 ∈ L26 := hm26 _ mq_b4
  have h26_b4 : f26 b4 = eJ G 21 (fun _ => 0) := (hf26 _ mq_b4 trivial).trans h25_b4
  have mr26 : ∀ j, j < 80 → cr j ∈ L26 := fun j hj => hm26 _ (mr23 j hj)
  have hr26 : ∀ j, j < 80 → f26 (cr j) = eI G 11 (fun _ => 0) := fun j hj => (hf26 _ (mr23 j hj) trivial).trans (hr25 j hj)
  have mq_o1 : o1 ∈ L26 := by rw [eL26]; exact List.mem_append_right _ (List.mem_singleton.mpr rfl)
  have hv_o1 : f26 o1 = eO 4 [.long 0, .null, .null, .null, .null] := by rw [ef26]; exact va_up_eq _ _ _
  have nx_o1 : o1 ≠ x := fun h9 => hq_o1 (by rw [h9]; exact m23_x)
  have nn_x_o1 : x ≠ o1 := fun h9 => hq_o1 (by rw [← h9]; exact m23_x)
  have nn_co_o1 : co ≠ o1 := fun h9 => hq_o1 (by rw [← h9]; exact m23_co)
  have nn_fn_o1 : fn ≠ o1 := fun h9 => hq_o1 (by rw [← h9]; exact m23_fn)
  have nn_fm_o1 : fm ≠ o1 := fun h9 => hq_o1 (by rw [← h9]; exact m23_fm)
  have nn_b1_o1 : b1 ≠ o1 := fun h9 => hq_o1 (by rw [← h9]; exact m23_b1)
  have nn_b2_o1 : b2 ≠ o1 := fun h9 => hq_o1 (by rw [← h9]; exact m23_b2)
  have nn_b3_o1 : b3 ≠ o1 := fun h9 => hq_o1 (by rw [← h9]; exact m23_b3)
  have nn_b4_o1 : b4 ≠ o1 := fun h9 => hq_o1 (by rw [← h9]; exact mq_b4)
  have nl_o1 : o1 ∉ L := fun h9 => hq_o1 (hsub23 _ h9)
  have nr_o1 : ∀ j, j < 80 → cr j ≠ o1 := fun j hj h9 => hq_o1 (by rw [← h9]; exact mr23 j hj)
  refine lv_dup hx hb dX7_init_78 rfl ?_
  refine k_callIN (As := []) (rest := [.ref o1, .ref x]) cx.fix hk hw (k_X3_init l G L26 f26 _  o1 [.long 0, .null, .null, .null, .null] mq_o1 hv_o1 rfl) (k_cIN 0 hts hk.2.2.1 u_225 u_226 u_227 rfl rfl (by decide) (by decide) (by decide)) hl.1 rfl (lv_room (Nat.le_of_ble_eq_true rfl)) dX7_init_79 (by decide) (fun u H locs hp hw => ?_)
  obtain ⟨L27, f27⟩ := u
  have hw : wH G A s.heap s L27 f27 H locs := hw
  obtain ⟨hm27, hf27, fo27, hfo27, hfn27⟩ := hp
  have hm27 : ∀ q ∈ L26, q ∈ L27 := hm27
  have hf27 : ∀ q ∈ L26, q ≠ o1 → f27 q = f26 q := hf27
  have hsub27 : ∀ q ∈ L, q ∈ L27 := fun q h => hm27 q (hsub26 q h)
  have hof27 : ∀ q ∈ L, q ≠ x → f27 q = f q := fun q h hne => (hf27 q (hsub26 q h) (fun h9 => nl_o1 (by rw [← h9]; exact h))).trans (hof26 q h hne)
  have m27_x : x ∈ L27 := hm27 _ m26_x
  have h27_x : f27 x = eO 7 fs24 := (hf27 _ m26_x nn_x_o1).trans h26_x
  have m27_co : co ∈ L27 := hm27 _ m26_co
  have h27_co : f27 co = eII G 80 (fun i => if i < 80 then some (cr i) else none) := (hf27 _ m26_co nn_co_o1).trans h26_co
  have m27_fn : fn ∈ L27 := hm27 _ m26_fn
  have h27_fn : f27 fn = eI G 10 (fun _ => 0) := (hf27 _ m26_fn nn_fn_o1).trans h26_fn
  have m27_fm : fm ∈ L27 := hm27 _ m26_fm
  have h27_fm : f27 fm = eI G 10 (fun _ => 0) := (hf27 _ m26_fm nn_fm_o1).trans h26_fm
  have m27_b1 : b1 ∈ L27 := hm27 _ m26_b1
  have h27_b1 : f27 b1 = eJ G 11 (fun _ => 0) := (hf27 _ m26_b1 nn_b1_o1).trans h26_b1
  have m27_b2 : b2 ∈ L27 := hm27 _ m26_b2
  have h27_b2 : f27 b2 = eJ G 11 (fun _ => 0) := (hf27 _ m26_b2 nn_b2_o1).trans h26_b2
  have m27_b3 : b3 ∈ L27 := hm27 _ m26_b3
  have h27_b3 : f27 b3 = eJ G 11 (fun _ => 0) := (hf27 _ m26_b3 nn_b3_o1).trans h26_b3
  have m27_b4 : b4 ∈ L27 := hm27 _ m26_b4
  have h27_b4 : f27 b4 = eJ G 21 (fun _ => 0) := (hf27 _ m26_b4 nn_b4_o1).trans h26_b4
  have m27_o1 : o1 ∈ L27 := hm27 _ mq_o1
  have h27_o1 : f27 o1 = eO 4 fo27 := hfo27
  have mr27 : ∀ j, j < 80 → cr j ∈ L27 := fun j hj => hm27 _ (mr26 j hj)
  have hr27 : ∀ j, j < 80 → f27 (cr j) = eI G 11 (fun _ => 0) := fun j hj => (hf27 _ (mr26 j hj) (nr_o1 j hj)).trans (hr26 j hj)
  refine k_putF (own := RX7) (C := RX7) (T := TX7) (N := 15) (ci := 7) (ty := (.object "LiftFactors$Field")) (v := .ref o1) hx hb hts inX7_u tyX7 tyX7_ok nmX7 hown hw m27_x h27_x rfl 9 (by decide) u_228 rfl rfl hin (by decide +kernel) rfl rfl (by rw [hlen24]; decide) dX7_init_82 (fun H locs hw => ?_)
  obtain ⟨fs28, hz28⟩ : ∃ zz9, zz9 = fs24.set 9 (.ref o1) := ⟨_, rfl⟩
  rw [← hz28] at hw
  have hlen28 : fs28.length = 15 := by rw [hz28, List.length_set]; exact hlen24
  have g28_0 : fs28[0]? = some (.ref co) := by rw [hz28, List.getElem?_set_ne (by decide)]; exact g24_0
  have g28_1 : fs28[1]? = some (.int (nI 0)) := by rw [hz28, List.getElem?_set_ne (by decide)]; exact g24_1
  have g28_2 : fs28[2]? = some (.ref fn) := by rw [hz28, List.getElem?_set_ne (by decide)]; exact g24_2
  have g28_3 : fs28[3]? = some (.ref fm) := by rw [hz28, List.getElem?_set_ne (by decide)]; exact g24_3
  have g28_4 : fs28[4]? = some (.int (nI 0)) := by rw [hz28, List.getElem?_set_ne (by decide)]; exact g24_4
  have g28_5 : fs28[5]? = some (.ref b1) := by rw [hz28, List.getElem?_set_ne (by decide)]; exact g24_5
  have g28_6 : fs28[6]? = some (.ref b2) := by rw [hz28, List.getElem?_set_ne (by decide)]; exact g24_6
  have g28_7 : fs28[7]? = some (.ref b3) := by rw [hz28, List.getElem?_set_ne (by decide)]; exact g24_7
  have g28_8 : fs28[8]? = some (.ref b4) := by rw [hz28, List.getElem?_set_ne (by decide)]; exact g24_8
  have g28_9 : fs28[9]? = some (.ref o1) := by rw [hz28, List.getElem?_set_self (by rw [hlen24]; decide)]
  obtain ⟨f29, ef29⟩ : ∃ z9 : Nat → va_E, z9 = va_up f27 x (eO 7 fs28) := ⟨_, rfl⟩
  rw [← ef29] at hw
  have eL29 : L27 = L27 := rfl
  have hf29 : ∀ q : Nat, q ≠ x → f29 q = f27 q := fun q hne => by rw [ef29]; exact va_up_ne _ _ hne
  have hof29 : ∀ q ∈ L, q ≠ x → f29 q = f q := fun q h hne => (hf29 q hne).trans (hof27 q h hne)
  have h29_co : f29 co = eII G 80 (fun i => if i < 80 then some (cr i) else none) := (hf29 _ nx_co).trans h27_co
  have h29_fn : f29 fn = eI G 10 (fun _ => 0) := (hf29 _ nx_fn).trans h27_fn
  have h29_fm : f29 fm = eI G 10 (fun _ => 0) := (hf29 _ nx_fm).trans h27_fm
  have h29_b1 : f29 b1 = eJ G 11 (fun _ => 0) := (hf29 _ nx_b1).trans h27_b1
  have h29_b2 : f29 b2 = eJ G 11 (fun _ => 0) := (hf29 _ nx_b2).trans h27_b2
  have h29_b3 : f29 b3 = eJ G 11 (fun _ => 0) := (hf29 _ nx_b3).trans h27_b3
  have h29_b4 : f29 b4 = eJ G 21 (fun _ => 0) := (hf29 _ nx_b4).trans h27_b4
  have h29_o1 : f29 o1 = eO 4 fo27 := (hf29 _ nx_o1).trans h27_o1
  have hr29 : ∀ j, j < 80 → f29 (cr j) = eI G 11 (fun _ => 0) := fun j hj => (hf29 _ (nrx j hj)).trans (hr27 j hj)
  have h29_x : f29 x = eO 7 fs28 := by rw [ef29]; exact va_up_eq _ _ _
  refine lv_aload_n hx hb dX7_init_85 rfl (lv_at hl 0 rfl) ?_
  refine k_new (own := RX7) (C := RX1) (T := TX1) (N := 2) (ci := 2) hx hb hts inX1_u tyX1 tyX1_ok hown u_229 u_230 u_231 hw rfl [.null, .null] (by decide +kernel) (by decide) (by decide) dX7_init_86 (fun o2 H hq_o2 hw => ?_)
  obtain ⟨L30, eL30⟩ : ∃ z : List Nat, z = L27 ++ [o2] := ⟨_, rfl⟩
  obtain ⟨f30, ef30⟩ : ∃ z : Nat → va_E, z = va_up f29 o2 (eO 2 [.null, .null]) := ⟨_, rfl⟩
  rw [← eL30, ← ef30] at hw
  have hm30 : ∀ q ∈ L27, q ∈ L30 := fun q h => by rw [eL30]; exact List.mem_append_left _ h
  have hf30 : ∀ q ∈ L27, True → f30 q = f29 q := fun q h hne => by rw [ef30]; exact va_up_ne _ _ (fun h9 => hq_o2 (by rw [← h9]; exact h))
  have hsub30 : ∀ q ∈ L, q ∈ L30 := fun q h => hm30 q (hsub27 q h)
  have hof30 : ∀ q ∈ L, q ≠ x → f30 q = f q := fun q h hne => (hf30 q (hsub27 q h) trivial).trans (hof29 q h hne)
  have m30_x : x ∈ L30 := hm30 _ m27_x
  have h30_x : f30 x = eO 7 fs28 := (hf30 _ m27_x trivial).trans h29_x
  have m30_co : co ∈ L30 := hm30 _ m27_co
  have h30_co : f30 co = eII G 80 (fun i => if i < 80 then some (cr i) else none) := (hf30 _ m27_co trivial).trans h29_co
  have m30_fn : fn ∈ L30 := hm30 _ m27_fn
  have h30_fn : f30 fn = eI G 10 (fun _ => 0) := (hf30 _ m27_fn trivial).trans h29_fn
  have m30_fm : fm ∈ L30 := hm30 _ m27_fm
  have h30_fm : f30 fm = eI G 10 (fun _ => 0) := (hf30 _ m27_fm trivial).trans h29_fm
  have m30_b1 : b1 ∈ L30 := hm30 _ m27_b1
  have h30_b1 : f30 b1 = eJ G 11 (fun _ => 0) := (hf30 _ m27_b1 trivial).trans h29_b1
  have m30_b2 : b2 ∈ L30 := hm30 _ m27_b2
  have h30_b2 : f30 b2 = eJ G 11 (fun _ => 0) := (hf30 _ m27_b2 trivial).trans h29_b2
  have m30_b3 : b3 ∈ L30 := hm30 _ m27_b3
  have h30_b3 : f30 b3 = eJ G 11 (fun _ => 0) := (hf30 _ m27_b3 trivial).trans h29_b3
  have m30_b4 : b4 ∈ L30 := hm30 _ m27_b4
  have h30_b4 : f30 b4 = eJ G 21 (fun _ => 0) := (hf30 _ m27_b4 trivial).trans h29_b4
  have m30_o1 : o1 ∈ L30 := hm30 _ m27_o1
  have h30_o1 : f30 o1 = eO 4 fo27 := (hf30 _ m27_o1 trivial).trans h29_o1
  have mr30 : ∀ j, j < 80 → cr j ∈ L30 := fun j hj => hm30 _ (mr27 j hj)
  have hr30 : ∀ j, j < 80 → f30 (cr j) = eI G 11 (fun _ => 0) := fun j hj => (hf30 _ (mr27 j hj) trivial).trans (hr29 j hj)
  have mq_o2 : o2 ∈ L30 := by rw [eL30]; exact List.mem_append_right _ (List.mem_singleton.mpr rfl)
  have hv_o2 : f30 o2 = eO 2 [.null, .null] := by rw [ef30]; exact va_up_eq _ _ _
  have nx_o2 : o2 ≠ x := fun h9 => hq_o2 (by rw [h9]; exact m27_x)
  have nn_x_o2 : x ≠ o2 := fun h9 => hq_o2 (by rw [← h9]; exact m27_x)
  have nn_co_o2 : co ≠ o2 := fun h9 => hq_o2 (by rw [← h9]; exact m27_co)
  have nn_fn_o2 : fn ≠ o2 := fun h9 => hq_o2 (by rw [← h9]; exact m27_fn)
  have nn_fm_o2 : fm ≠ o2 := fun h9 => hq_o2 (by rw [← h9]; exact m27_fm)
  have nn_b1_o2 : b1 ≠ o2 := fun h9 => hq_o2 (by rw [← h9]; exact m27_b1)
  have nn_b2_o2 : b2 ≠ o2 := fun h9 => hq_o2 (by rw [← h9]; exact m27_b2)
  have nn_b3_o2 : b3 ≠ o2 := fun h9 => hq_o2 (by rw [← h9]; exact m27_b3)
  have nn_b4_o2 : b4 ≠ o2 := fun h9 => hq_o2 (by rw [← h9]; exact m27_b4)
  have nn_o1_o2 : o1 ≠ o2 := fun h9 => hq_o2 (by rw [← h9]; exact m27_o1)
  have nl_o2 : o2 ∉ L := fun h9 => hq_o2 (hsub27 _ h9)
  have nr_o2 : ∀ j, j < 80 → cr j ≠ o2 := fun j hj h9 => hq_o2 (by rw [← h9]; exact mr27 j hj)
  refine lv_dup hx hb dX7_init_89 rfl ?_
  refine k_callIN (As := []) (rest := [.ref o2, .ref x]) cx.fix hk hw (k_X1_init l G L30 f30 _  o2 [.null, .null] mq_o2 hv_o2 rfl) (k_cIN 0 hts hk.2.2.2.1 u_232 u_233 u_234 rfl rfl (by decide) (by decide) (by decide)) hl.1 rfl (lv_room (Nat.le_of_ble_eq_true rfl)) dX7_init_90 (by decide) (fun u H locs hp hw => ?_)
  obtain ⟨L31, f31⟩ := u
  have hw : wH G A s.heap s L31 f31 H locs := hw
  obtain ⟨hm31, hf31, fo31, hfo31, hfn31⟩ := hp
  have hm31 : ∀ q ∈ L30, q ∈ L31 := hm31
  have hf31 : ∀ q ∈ L30, q ≠ o2 → f31 q = f30 q := hf31
  have hsub31 : ∀ q ∈ L, q ∈ L31 := fun q h => hm31 q (hsub30 q h)
  have hof31 : ∀ q ∈ L, q ≠ x → f31 q = f q := fun q h hne => (hf31 q (hsub30 q h) (fun h9 => nl_o2 (by rw [← h9]; exact h))).trans (hof30 q h hne)
  have m31_x : x ∈ L31 := hm31 _ m30_x
  have h31_x : f31 x = eO 7 fs28 := (hf31 _ m30_x nn_x_o2).trans h30_x
  have m31_co : co ∈ L31 := hm31 _ m30_co
  have h31_co : f31 co = eII G 80 (fun i => if i < 80 then some (cr i) else none) := (hf31 _ m30_co nn_co_o2).trans h30_co
  have m31_fn : fn ∈ L31 := hm31 _ m30_fn
  have h31_fn : f31 fn = eI G 10 (fun _ => 0) := (hf31 _ m30_fn nn_fn_o2).trans h30_fn
  have m31_fm : fm ∈ L31 := hm31 _ m30_fm
  have h31_fm : f31 fm = eI G 10 (fun _ => 0) := (hf31 _ m30_fm nn_fm_o2).trans h30_fm
  have m31_b1 : b1 ∈ L31 := hm31 _ m30_b1
  have h31_b1 : f31 b1 = eJ G 11 (fun _ => 0) := (hf31 _ m30_b1 nn_b1_o2).trans h30_b1
  have m31_b2 : b2 ∈ L31 := hm31 _ m30_b2
  have h31_b2 : f31 b2 = eJ G 11 (fun _ => 0) := (hf31 _ m30_b2 nn_b2_o2).trans h30_b2
  have m31_b3 : b3 ∈ L31 := hm31 _ m30_b3
  have h31_b3 : f31 b3 = eJ G 11 (fun _ => 0) := (hf31 _ m30_b3 nn_b3_o2).trans h30_b3
  have m31_b4 : b4 ∈ L31 := hm31 _ m30_b4
  have h31_b4 : f31 b4 = eJ G 21 (fun _ => 0) := (hf31 _ m30_b4 nn_b4_o2).trans h30_b4
  have m31_o1 : o1 ∈ L31 := hm31 _ m30_o1
  have h31_o1 : f31 o1 = eO 4 fo27 := (hf31 _ m30_o1 nn_o1_o2).trans h30_o1
  have m31_o2 : o2 ∈ L31 := hm31 _ mq_o2
  have h31_o2 : f31 o2 = eO 2 fo31 := hfo31
  have mr31 : ∀ j, j < 80 → cr j ∈ L31 := fun j hj => hm31 _ (mr30 j hj)
  have hr31 : ∀ j, j < 80 → f31 (cr j) = eI G 11 (fun _ => 0) := fun j hj => (hf31 _ (mr30 j hj) (nr_o2 j hj)).trans (hr30 j hj)
  refine k_putF (own := RX7) (C := RX7) (T := TX7) (N := 15) (ci := 7) (ty := (.object "LiftFactors$Divider")) (v := .ref o2) hx hb hts inX7_u tyX7 tyX7_ok nmX7 hown hw m31_x h31_x rfl 10 (by decide) u_235 rfl rfl hin (by decide +kernel) rfl rfl (by rw [hlen28]; decide) dX7_init_93 (fun H locs hw => ?_)
  obtain ⟨fs32, hz32⟩ : ∃ zz9, zz9 = fs28.set 10 (.ref o2) := ⟨_, rfl⟩
  rw [← hz32] at hw
  have hlen32 : fs32.length = 15 := by rw [hz32, List.length_set]; exact hlen28
  have g32_0 : fs32[0]? = some (.ref co) := by rw [hz32, List.getElem?_set_ne (by decide)]; exact g28_0
  have g32_1 : fs32[1]? = some (.int (nI 0)) := by rw [hz32, List.getElem?_set_ne (by decide)]; exact g28_1
  have g32_2 : fs32[2]? = some (.ref fn) := by rw [hz32, List.getElem?_set_ne (by decide)]; exact g28_2
  have g32_3 : fs32[3]? = some (.ref fm) := by rw [hz32, List.getElem?_set_ne (by decide)]; exact g28_3
  have g32_4 : fs32[4]? = some (.int (nI 0)) := by rw [hz32, List.getElem?_set_ne (by decide)]; exact g28_4
  have g32_5 : fs32[5]? = some (.ref b1) := by rw [hz32, List.getElem?_set_ne (by decide)]; exact g28_5
  have g32_6 : fs32[6]? = some (.ref b2) := by rw [hz32, List.getElem?_set_ne (by decide)]; exact g28_6
  have g32_7 : fs32[7]? = some (.ref b3) := by rw [hz32, List.getElem?_set_ne (by decide)]; exact g28_7
  have g32_8 : fs32[8]? = some (.ref b4) := by rw [hz32, List.getElem?_set_ne (by decide)]; exact g28_8
  have g32_9 : fs32[9]? = some (.ref o1) := by rw [hz32, List.getElem?_set_ne (by decide)]; exact g28_9
  have g32_10 : fs32[10]? = some (.ref o2) := by rw [hz32, List.getElem?_set_self (by rw [hlen28]; decide)]
  obtain ⟨f33, ef33⟩ : ∃ z9 : Nat → va_E, z9 = va_up f31 x (eO 7 fs32) := ⟨_, rfl⟩
  rw [← ef33] at hw
  have eL33 : L31 = L31 := rfl
  have hf33 : ∀ q : Nat, q ≠ x → f33 q = f31 q := fun q hne => by rw [ef33]; exact va_up_ne _ _ hne
  have hof33 : ∀ q ∈ L, q ≠ x → f33 q = f q := fun q h hne => (hf33 q hne).trans (hof31 q h hne)
  have h33_co : f33 co = eII G 80 (fun i => if i < 80 then some (cr i) else none) := (hf33 _ nx_co).trans h31_co
  have h33_fn : f33 fn = eI G 10 (fun _ => 0) := (hf33 _ nx_fn).trans h31_fn
  have h33_fm : f33 fm = eI G 10 (fun _ => 0) := (hf33 _ nx_fm).trans h31_fm
  have h33_b1 : f33 b1 = eJ G 11 (fun _ => 0) := (hf33 _ nx_b1).trans h31_b1
  have h33_b2 : f33 b2 = eJ G 11 (fun _ => 0) := (hf33 _ nx_b2).trans h31_b2
  have h33_b3 : f33 b3 = eJ G 11 (fun _ => 0) := (hf33 _ nx_b3).trans h31_b3
  have h33_b4 : f33 b4 = eJ G 21 (fun _ => 0) := (hf33 _ nx_b4).trans h31_b4
  have h33_o1 : f33 o1 = eO 4 fo27 := (hf33 _ nx_o1).trans h31_o1
  have h33_o2 : f33 o2 = eO 2 fo31 := (hf33 _ nx_o2).trans h31_o2
  have hr33 : ∀ j, j < 80 → f33 (cr j) = eI G 11 (fun _ => 0) := fun j hj => (hf33 _ (nrx j hj)).trans (hr31 j hj)
  have h33_x : f33 x = eO 7 fs32 := by rw [ef33]; exact va_up_eq _ _ _
  refine lv_aload_n hx hb dX7_init_96 rfl (lv_at hl 0 rfl) ?_
  refine k_new (own := RX7) (C := RX0) (T := TX0) (N := 2) (ci := 1) hx hb hts inX0_u tyX0 tyX0_ok hown u_236 u_237 u_238 hw rfl [.null, .null] (by decide +kernel) (by decide) (by decide) dX7_init_97 (fun o3 H hq_o3 hw => ?_)
  obtain ⟨L34, eL34⟩ : ∃ z : List Nat, z = L31 ++ [o3] := ⟨_, rfl⟩
  obtain ⟨f34, ef34⟩ : ∃ z : Nat → va_E, z = va_up f33 o3 (eO 1 [.null, .null]) := ⟨_, rfl⟩
  rw [← eL34, ← ef34] at hw
  have hm34 : ∀ q ∈ L31, q ∈ L34 := fun q h => by rw [eL34]; exact List.mem_append_left _ h
  have hf34 : ∀ q ∈ L31, True → f34 q = f33 q := fun q h hne => by rw [ef34]; exact va_up_ne _ _ (fun h9 => hq_o3 (by rw [← h9]; exact h))
  have hsub34 : ∀ q ∈ L, q ∈ L34 := fun q h => hm34 q (hsub31 q h)
  have hof34 : ∀ q ∈ L, q ≠ x → f34 q = f q := fun q h hne => (hf34 q (hsub31 q h) trivial).trans (hof33 q h hne)
  have m34_x : x ∈ L34 := hm34 _ m31_x
  have h34_x : f34 x = eO 7 fs32 := (hf34 _ m31_x trivial).trans h33_x
  have m34_co : co ∈ L34 := hm34 _ m31_co
  have h34_co : f34 co = eII G 80 (fun i => if i < 80 then some (cr i) else none) := (hf34 _ m31_co trivial).trans h33_co
  have m34_fn : fn ∈ L34 := hm34 _ m31_fn
  have h34_fn : f34 fn = eI G 10 (fun _ => 0) := (hf34 _ m31_fn trivial).trans h33_fn
  have m34_fm : fm ∈ L34 := hm34 _ m31_fm
  have h34_fm : f34 fm = eI G 10 (fun _ => 0) := (hf34 _ m31_fm trivial).trans h33_fm
  have m34_b1 : b1 ∈ L34 := hm34 _ m31_b1
  have h34_b1 : f34 b1 = eJ G 11 (fun _ => 0) := (hf34 _ m31_b1 trivial).trans h33_b1
  have m34_b2 : b2 ∈ L34 := hm34 _ m31_b2
  have h34_b2 : f34 b2 = eJ G 11 (fun _ => 0) := (hf34 _ m31_b2 trivial).trans h33_b2
  have m34_b3 : b3 ∈ L34 := hm34 _ m31_b3
  have h34_b3 : f34 b3 = eJ G 11 (fun _ => 0) := (hf34 _ m31_b3 trivial).trans h33_b3
  have m34_b4 : b4 ∈ L34 := hm34 _ m31_b4
  have h34_b4 : f34 b4 = eJ G 21 (fun _ => 0) := (hf34 _ m31_b4 trivial).trans h33_b4
  have m34_o1 : o1 ∈ L34 := hm34 _ m31_o1
  have h34_o1 : f34 o1 = eO 4 fo27 := (hf34 _ m31_o1 trivial).trans h33_o1
  have m34_o2 : o2 ∈ L34 := hm34 _ m31_o2
  have h34_o2 : f34 o2 = eO 2 fo31 := (hf34 _ m31_o2 trivial).trans h33_o2
  have mr34 : ∀ j, j < 80 → cr j ∈ L34 := fun j hj => hm34 _ (mr31 j hj)
  have hr34 : ∀ j, j < 80 → f34 (cr j) = eI G 11 (fun _ => 0) := fun j hj => (hf34 _ (mr31 j hj) trivial).trans (hr33 j hj)
  have mq_o3 : o3 ∈ L34 := by rw [eL34]; exact List.mem_append_right _ (List.mem_singleton.mpr rfl)
  have hv_o3 : f34 o3 = eO 1 [.null, .null] := by rw [ef34]; exact va_up_eq _ _ _
  have nx_o3 : o3 ≠ x := fun h9 => hq_o3 (by rw [h9]; exact m31_x)
  have nn_x_o3 : x ≠ o3 := fun h9 => hq_o3 (by rw [← h9]; exact m31_x)
  have nn_co_o3 : co ≠ o3 := fun h9 => hq_o3 (by rw [← h9]; exact m31_co)
  have nn_fn_o3 : fn ≠ o3 := fun h9 => hq_o3 (by rw [← h9]; exact m31_fn)
  have nn_fm_o3 : fm ≠ o3 := fun h9 => hq_o3 (by rw [← h9]; exact m31_fm)
  have nn_b1_o3 : b1 ≠ o3 := fun h9 => hq_o3 (by rw [← h9]; exact m31_b1)
  have nn_b2_o3 : b2 ≠ o3 := fun h9 => hq_o3 (by rw [← h9]; exact m31_b2)
  have nn_b3_o3 : b3 ≠ o3 := fun h9 => hq_o3 (by rw [← h9]; exact m31_b3)
  have nn_b4_o3 : b4 ≠ o3 := fun h9 => hq_o3 (by rw [← h9]; exact m31_b4)
  have nn_o1_o3 : o1 ≠ o3 := fun h9 => hq_o3 (by rw [← h9]; exact m31_o1)
  have nn_o2_o3 : o2 ≠ o3 := fun h9 => hq_o3 (by rw [← h9]; exact m31_o2)
  have nl_o3 : o3 ∉ L := fun h9 => hq_o3 (hsub31 _ h9)
  have nr_o3 : ∀ j, j < 80 → cr j ≠ o3 := fun j hj h9 => hq_o3 (by rw [← h9]; exact mr31 j hj)
  refine lv_dup hx hb dX7_init_100 rfl ?_
  refine lv_aload_n hx hb dX7_init_101 rfl (lv_at hl 0 rfl) ?_
  refine w_get (C := RX7) (T := TX7) (N := 15) (ci := 7) (ref := "LiftFactors") (v := .ref o1) hx hb hts inX7_u hown hw m34_x h34_x rfl 9 (by decide) u_228 rfl g32_9 dX7_init_102 ?_
  refine lv_aload_n hx hb dX7_init_105 rfl (lv_at hl 0 rfl) ?_
  refine w_get (C := RX7) (T := TX7) (N := 15) (ci := 7) (ref := "LiftFactors") (v := .ref o2) hx hb hts inX7_u hown hw m34_x h34_x rfl 10 (by decide) u_235 rfl g32_10 dX7_init_106 ?_
  refine k_callI (As := [.ref o1, .ref o2]) (rest := [.ref o3, .ref x]) cx.fix hk hw (k_X0_init l G L34 f34 _ o1 o2 o3 [.null, .null] mq_o3 hv_o3 rfl) (k_cI 2 hts u_239 u_240 u_241 u_242 rfl rfl (by decide) (by decide) (by decide)) hl.1 rfl (lv_room (Nat.le_of_ble_eq_true rfl)) dX7_init_109 (by decide) (fun u H locs hp hw => ?_)
  obtain ⟨L35, f35⟩ := u
  have hw : wH G A s.heap s L35 f35 H locs := hw
  obtain ⟨hm35, hf35, fo35, hfo35, hfn35⟩ := hp
  have hm35 : ∀ q ∈ L34, q ∈ L35 := hm35
  have hf35 : ∀ q ∈ L34, q ≠ o3 → f35 q = f34 q := hf35
  have hsub35 : ∀ q ∈ L, q ∈ L35 := fun q h => hm35 q (hsub34 q h)
  have hof35 : ∀ q ∈ L, q ≠ x → f35 q = f q := fun q h hne => (hf35 q (hsub34 q h) (fun h9 => nl_o3 (by rw [← h9]; exact h))).trans (hof34 q h hne)
  have m35_x : x ∈ L35 := hm35 _ m34_x
  have h35_x : f35 x = eO 7 fs32 := (hf35 _ m34_x nn_x_o3).trans h34_x
  have m35_co : co ∈ L35 := hm35 _ m34_co
  have h35_co : f35 co = eII G 80 (fun i => if i < 80 then some (cr i) else none) := (hf35 _ m34_co nn_co_o3).trans h34_co
  have m35_fn : fn ∈ L35 := hm35 _ m34_fn
  have h35_fn : f35 fn = eI G 10 (fun _ => 0) := (hf35 _ m34_fn nn_fn_o3).trans h34_fn
  have m35_fm : fm ∈ L35 := hm35 _ m34_fm
  have h35_fm : f35 fm = eI G 10 (fun _ => 0) := (hf35 _ m34_fm nn_fm_o3).trans h34_fm
  have m35_b1 : b1 ∈ L35 := hm35 _ m34_b1
  have h35_b1 : f35 b1 = eJ G 11 (fun _ => 0) := (hf35 _ m34_b1 nn_b1_o3).trans h34_b1
  have m35_b2 : b2 ∈ L35 := hm35 _ m34_b2
  have h35_b2 : f35 b2 = eJ G 11 (fun _ => 0) := (hf35 _ m34_b2 nn_b2_o3).trans h34_b2
  have m35_b3 : b3 ∈ L35 := hm35 _ m34_b3
  have h35_b3 : f35 b3 = eJ G 11 (fun _ => 0) := (hf35 _ m34_b3 nn_b3_o3).trans h34_b3
  have m35_b4 : b4 ∈ L35 := hm35 _ m34_b4
  have h35_b4 : f35 b4 = eJ G 21 (fun _ => 0) := (hf35 _ m34_b4 nn_b4_o3).trans h34_b4
  have m35_o1 : o1 ∈ L35 := hm35 _ m34_o1
  have h35_o1 : f35 o1 = eO 4 fo27 := (hf35 _ m34_o1 nn_o1_o3).trans h34_o1
  have m35_o2 : o2 ∈ L35 := hm35 _ m34_o2
  have h35_o2 : f35 o2 = eO 2 fo31 := (hf35 _ m34_o2 nn_o2_o3).trans h34_o2
  have m35_o3 : o3 ∈ L35 := hm35 _ mq_o3
  have h35_o3 : f35 o3 = eO 1 fo35 := hfo35
  have mr35 : ∀ j, j < 80 → cr j ∈ L35 := fun j hj => hm35 _ (mr34 j hj)
  have hr35 : ∀ j, j < 80 → f35 (cr j) = eI G 11 (fun _ => 0) := fun j hj => (hf35 _ (mr34 j hj) (nr_o3 j hj)).trans (hr34 j hj)
  refine k_putF (own := RX7) (C := RX7) (T := TX7) (N := 15) (ci := 7) (ty := (.object "LiftFactors$CommonDivisor")) (v := .ref o3) hx hb hts inX7_u tyX7 tyX7_ok nmX7 hown hw m35_x h35_x rfl 11 (by decide) u_143 rfl rfl hin (by decide +kernel) rfl rfl (by rw [hlen32]; decide) dX7_init_112 (fun H locs hw => ?_)
  obtain ⟨fs36, hz36⟩ : ∃ zz9, zz9 = fs32.set 11 (.ref o3) := ⟨_, rfl⟩
  rw [← hz36] at hw
  have hlen36 : fs36.length = 15 := by rw [hz36, List.length_set]; exact hlen32
  have g36_0 : fs36[0]? = some (.ref co) := by rw [hz36, List.getElem?_set_ne (by decide)]; exact g32_0
  have g36_1 : fs36[1]? = some (.int (nI 0)) := by rw [hz36, List.getElem?_set_ne (by decide)]; exact g32_1
  have g36_2 : fs36[2]? = some (.ref fn) := by rw [hz36, List.getElem?_set_ne (by decide)]; exact g32_2
  have g36_3 : fs36[3]? = some (.ref fm) := by rw [hz36, List.getElem?_set_ne (by decide)]; exact g32_3
  have g36_4 : fs36[4]? = some (.int (nI 0)) := by rw [hz36, List.getElem?_set_ne (by decide)]; exact g32_4
  have g36_5 : fs36[5]? = some (.ref b1) := by rw [hz36, List.getElem?_set_ne (by decide)]; exact g32_5
  have g36_6 : fs36[6]? = some (.ref b2) := by rw [hz36, List.getElem?_set_ne (by decide)]; exact g32_6
  have g36_7 : fs36[7]? = some (.ref b3) := by rw [hz36, List.getElem?_set_ne (by decide)]; exact g32_7
  have g36_8 : fs36[8]? = some (.ref b4) := by rw [hz36, List.getElem?_set_ne (by decide)]; exact g32_8
  have g36_9 : fs36[9]? = some (.ref o1) := by rw [hz36, List.getElem?_set_ne (by decide)]; exact g32_9
  have g36_10 : fs36[10]? = some (.ref o2) := by rw [hz36, List.getElem?_set_ne (by decide)]; exact g32_10
  have g36_11 : fs36[11]? = some (.ref o3) := by rw [hz36, List.getElem?_set_self (by rw [hlen32]; decide)]
  obtain ⟨f37, ef37⟩ : ∃ z9 : Nat → va_E, z9 = va_up f35 x (eO 7 fs36) := ⟨_, rfl⟩
  rw [← ef37] at hw
  have eL37 : L35 = L35 := rfl
  have hf37 : ∀ q : Nat, q ≠ x → f37 q = f35 q := fun q hne => by rw [ef37]; exact va_up_ne _ _ hne
  have hof37 : ∀ q ∈ L, q ≠ x → f37 q = f q := fun q h hne => (hf37 q hne).trans (hof35 q h hne)
  have h37_co : f37 co = eII G 80 (fun i => if i < 80 then some (cr i) else none) := (hf37 _ nx_co).trans h35_co
  have h37_fn : f37 fn = eI G 10 (fun _ => 0) := (hf37 _ nx_fn).trans h35_fn
  have h37_fm : f37 fm = eI G 10 (fun _ => 0) := (hf37 _ nx_fm).trans h35_fm
  have h37_b1 : f37 b1 = eJ G 11 (fun _ => 0) := (hf37 _ nx_b1).trans h35_b1
  have h37_b2 : f37 b2 = eJ G 11 (fun _ => 0) := (hf37 _ nx_b2).trans h35_b2
  have h37_b3 : f37 b3 = eJ G 11 (fun _ => 0) := (hf37 _ nx_b3).trans h35_b3
  have h37_b4 : f37 b4 = eJ G 21 (fun _ => 0) := (hf37 _ nx_b4).trans h35_b4
  have h37_o1 : f37 o1 = eO 4 fo27 := (hf37 _ nx_o1).trans h35_o1
  have h37_o2 : f37 o2 = eO 2 fo31 := (hf37 _ nx_o2).trans h35_o2
  have h37_o3 : f37 o3 = eO 1 fo35 := (hf37 _ nx_o3).trans h35_o3
  have hr37 : ∀ j, j < 80 → f37 (cr j) = eI G 11 (fun _ => 0) := fun j hj => (hf37 _ (nrx j hj)).trans (hr35 j hj)
  have h37_x : f37 x = eO 7 fs36 := by rw [ef37]; exact va_up_eq _ _ _
  refine lv_aload_n hx hb dX7_init_115 rfl (lv_at hl 0 rfl) ?_
  refine k_new (own := RX7) (C := RX6) (T := TX6) (N := 9) (ci := 6) hx hb hts inX6_u tyX6 tyX6_ok hown u_243 u_244 u_245 hw rfl [.null, .int 0, .int 0, .null, .null, .null, .null, .null, .null] (by decide +kernel) (by decide) (by decide) dX7_init_116 (fun o4 H hq_o4 hw => ?_)
  obtain ⟨L38, eL38⟩ : ∃ z : List Nat, z = L35 ++ [o4] := ⟨_, rfl⟩
  obtain ⟨f38, ef38⟩ : ∃ z : Nat → va_E, z = va_up f37 o4 (eO 6 [.null, .int 0, .int 0, .null, .null, .null, .null, .null, .null]) := ⟨_, rfl⟩
  rw [← eL38, ← ef38] at hw
  have hm38 : ∀ q ∈ L35, q ∈ L38 := fun q h => by rw [eL38]; exact List.mem_append_left _ h
  have hf38 : ∀ q ∈ L35, True → f38 q = f37 q := fun q h hne => by rw [ef38]; exact va_up_ne _ _ (fun h9 => hq_o4 (by rw [← h9]; exact h))
  have hsub38 : ∀ q ∈ L, q ∈ L38 := fun q h => hm38 q (hsub35 q h)
  have hof38 : ∀ q ∈ L, q ≠ x → f38 q = f q := fun q h hne => (hf38 q (hsub35 q h) trivial).trans (hof37 q h hne)
  have m38_x : x ∈ L38 := hm38 _ m35_x
  have h38_x : f38 x = eO 7 fs36 := (hf38 _ m35_x trivial).trans h37_x
  have m38_co : co ∈ L38 := hm38 _ m35_co
  have h38_co : f38 co = eII G 80 (fun i => if i < 80 then some (cr i) else none) := (hf38 _ m35_co trivial).trans h37_co
  have m38_fn : fn ∈ L38 := hm38 _ m35_fn
  have h38_fn : f38 fn = eI G 10 (fun _ => 0) := (hf38 _ m35_fn trivial).trans h37_fn
  have m38_fm : fm ∈ L38 := hm38 _ m35_fm
  have h38_fm : f38 fm = eI G 10 (fun _ => 0) := (hf38 _ m35_fm trivial).trans h37_fm
  have m38_b1 : b1 ∈ L38 := hm38 _ m35_b1
  have h38_b1 : f38 b1 = eJ G 11 (fun _ => 0) := (hf38 _ m35_b1 trivial).trans h37_b1
  have m38_b2 : b2 ∈ L38 := hm38 _ m35_b2
  have h38_b2 : f38 b2 = eJ G 11 (fun _ => 0) := (hf38 _ m35_b2 trivial).trans h37_b2
  have m38_b3 : b3 ∈ L38 := hm38 _ m35_b3
  have h38_b3 : f38 b3 = eJ G 11 (fun _ => 0) := (hf38 _ m35_b3 trivial).trans h37_b3
  have m38_b4 : b4 ∈ L38 := hm38 _ m35_b4
  have h38_b4 : f38 b4 = eJ G 21 (fun _ => 0) := (hf38 _ m35_b4 trivial).trans h37_b4
  have m38_o1 : o1 ∈ L38 := hm38 _ m35_o1
  have h38_o1 : f38 o1 = eO 4 fo27 := (hf38 _ m35_o1 trivial).trans h37_o1
  have m38_o2 : o2 ∈ L38 := hm38 _ m35_o2
  have h38_o2 : f38 o2 = eO 2 fo31 := (hf38 _ m35_o2 trivial).trans h37_o2
  have m38_o3 : o3 ∈ L38 := hm38 _ m35_o3
  have h38_o3 : f38 o3 = eO 1 fo35 := (hf38 _ m35_o3 trivial).trans h37_o3
  have mr38 : ∀ j, j < 80 → cr j ∈ L38 := fun j hj => hm38 _ (mr35 j hj)
  have hr38 : ∀ j, j < 80 → f38 (cr j) = eI G 11 (fun _ => 0) := fun j hj => (hf38 _ (mr35 j hj) trivial).trans (hr37 j hj)
  have mq_o4 : o4 ∈ L38 := by rw [eL38]; exact List.mem_append_right _ (List.mem_singleton.mpr rfl)
  have hv_o4 : f38 o4 = eO 6 [.null, .int 0, .int 0, .null, .null, .null, .null, .null, .null] := by rw [ef38]; exact va_up_eq _ _ _
  have nx_o4 : o4 ≠ x := fun h9 => hq_o4 (by rw [h9]; exact m35_x)
  have nn_x_o4 : x ≠ o4 := fun h9 => hq_o4 (by rw [← h9]; exact m35_x)
  have nn_co_o4 : co ≠ o4 := fun h9 => hq_o4 (by rw [← h9]; exact m35_co)
  have nn_fn_o4 : fn ≠ o4 := fun h9 => hq_o4 (by rw [← h9]; exact m35_fn)
  have nn_fm_o4 : fm ≠ o4 := fun h9 => hq_o4 (by rw [← h9]; exact m35_fm)
  have nn_b1_o4 : b1 ≠ o4 := fun h9 => hq_o4 (by rw [← h9]; exact m35_b1)
  have nn_b2_o4 : b2 ≠ o4 := fun h9 => hq_o4 (by rw [← h9]; exact m35_b2)
  have nn_b3_o4 : b3 ≠ o4 := fun h9 => hq_o4 (by rw [← h9]; exact m35_b3)
  have nn_b4_o4 : b4 ≠ o4 := fun h9 => hq_o4 (by rw [← h9]; exact m35_b4)
  have nn_o1_o4 : o1 ≠ o4 := fun h9 => hq_o4 (by rw [← h9]; exact m35_o1)
  have nn_o2_o4 : o2 ≠ o4 := fun h9 => hq_o4 (by rw [← h9]; exact m35_o2)
  have nn_o3_o4 : o3 ≠ o4 := fun h9 => hq_o4 (by rw [← h9]; exact m35_o3)
  have nl_o4 : o4 ∉ L := fun h9 => hq_o4 (hsub35 _ h9)
  have nr_o4 : ∀ j, j < 80 → cr j ≠ o4 := fun j hj h9 => hq_o4 (by rw [← h9]; exact mr35 j hj)
  refine lv_dup hx hb dX7_init_119 rfl ?_
  refine lv_aload_n hx hb dX7_init_120 rfl (lv_at hl 0 rfl) ?_
  refine w_get (C := RX7) (T := TX7) (N := 15) (ci := 7) (ref := "LiftFactors") (v := .ref o1) hx hb hts inX7_u hown hw m38_x h38_x rfl 9 (by decide) u_228 rfl g36_9 dX7_init_121 ?_
  refine k_callI (As := [.ref o1]) (rest := [.ref o4, .ref x]) cx.fix hk hw (k_X6_init l G L38 f38 _ o1 o4 [.null, .int 0, .int 0, .null, .null, .null, .null, .null, .null] mq_o4 hv_o4 rfl) (k_cI 1 hts u_246 u_247 u_248 u_249 rfl rfl (by decide) (by decide) (by decide)) hl.1 rfl (lv_room (Nat.le_of_ble_eq_true rfl)) dX7_init_124 (by decide) (fun u H locs hp hw => ?_)
  obtain ⟨L39, f39⟩ := u
  have hw : wH G A s.heap s L39 f39 H locs := hw
  obtain ⟨hm39, hf39, fo39, hfo39, hfn39⟩ := hp
  have hm39 : ∀ q ∈ L38, q ∈ L39 := hm39
  have hf39 : ∀ q ∈ L38, q ≠ o4 → f39 q = f38 q := hf39
  have hsub39 : ∀ q ∈ L, q ∈ L39 := fun q h => hm39 q (hsub38 q h)
  have hof39 : ∀ q ∈ L, q ≠ x → f39 q = f q := fun q h hne => (hf39 q (hsub38 q h) (fun h9 => nl_o4 (by rw [← h9]; exact h))).trans (hof38 q h hne)
  have m39_x : x ∈ L39 := hm39 _ m38_x
  have h39_x : f39 x = eO 7 fs36 := (hf39 _ m38_x nn_x_o4).trans h38_x
  have m39_co : co ∈ L39 := hm39 _ m38_co
  have h39_co : f39 co = eII G 80 (fun i => if i < 80 then some (cr i) else none) := (hf39 _ m38_co nn_co_o4).trans h38_co
  have m39_fn : fn ∈ L39 := hm39 _ m38_fn
  have h39_fn : f39 fn = eI G 10 (fun _ => 0) := (hf39 _ m38_fn nn_fn_o4).trans h38_fn
  have m39_fm : fm ∈ L39 := hm39 _ m38_fm
  have h39_fm : f39 fm = eI G 10 (fun _ => 0) := (hf39 _ m38_fm nn_fm_o4).trans h38_fm
  have m39_b1 : b1 ∈ L39 := hm39 _ m38_b1
  have h39_b1 : f39 b1 = eJ G 11 (fun _ => 0) := (hf39 _ m38_b1 nn_b1_o4).trans h38_b1
  have m39_b2 : b2 ∈ L39 := hm39 _ m38_b2
  have h39_b2 : f39 b2 = eJ G 11 (fun _ => 0) := (hf39 _ m38_b2 nn_b2_o4).trans h38_b2
  have m39_b3 : b3 ∈ L39 := hm39 _ m38_b3
  have h39_b3 : f39 b3 = eJ G 11 (fun _ => 0) := (hf39 _ m38_b3 nn_b3_o4).trans h38_b3
  have m39_b4 : b4 ∈ L39 := hm39 _ m38_b4
  have h39_b4 : f39 b4 = eJ G 21 (fun _ => 0) := (hf39 _ m38_b4 nn_b4_o4).trans h38_b4
  have m39_o1 : o1 ∈ L39 := hm39 _ m38_o1
  have h39_o1 : f39 o1 = eO 4 fo27 := (hf39 _ m38_o1 nn_o1_o4).trans h38_o1
  have m39_o2 : o2 ∈ L39 := hm39 _ m38_o2
  have h39_o2 : f39 o2 = eO 2 fo31 := (hf39 _ m38_o2 nn_o2_o4).trans h38_o2
  have m39_o3 : o3 ∈ L39 := hm39 _ m38_o3
  have h39_o3 : f39 o3 = eO 1 fo35 := (hf39 _ m38_o3 nn_o3_o4).trans h38_o3
  have m39_o4 : o4 ∈ L39 := hm39 _ mq_o4
  have h39_o4 : f39 o4 = eO 6 fo39 := hfo39
  have mr39 : ∀ j, j < 80 → cr j ∈ L39 := fun j hj => hm39 _ (mr38 j hj)
  have hr39 : ∀ j, j < 80 → f39 (cr j) = eI G 11 (fun _ => 0) := fun j hj => (hf39 _ (mr38 j hj) (nr_o4 j hj)).trans (hr38 j hj)
  refine k_putF (own := RX7) (C := RX7) (T := TX7) (N := 15) (ci := 7) (ty := (.object "LiftFactors$Splitter")) (v := .ref o4) hx hb hts inX7_u tyX7 tyX7_ok nmX7 hown hw m39_x h39_x rfl 12 (by decide) u_250 rfl rfl hin (by decide +kernel) rfl rfl (by rw [hlen36]; decide) dX7_init_127 (fun H locs hw => ?_)
  obtain ⟨fs40, hz40⟩ : ∃ zz9, zz9 = fs36.set 12 (.ref o4) := ⟨_, rfl⟩
  rw [← hz40] at hw
  have hlen40 : fs40.length = 15 := by rw [hz40, List.length_set]; exact hlen36
  have g40_0 : fs40[0]? = some (.ref co) := by rw [hz40, List.getElem?_set_ne (by decide)]; exact g36_0
  have g40_1 : fs40[1]? = some (.int (nI 0)) := by rw [hz40, List.getElem?_set_ne (by decide)]; exact g36_1
  have g40_2 : fs40[2]? = some (.ref fn) := by rw [hz40, List.getElem?_set_ne (by decide)]; exact g36_2
  have g40_3 : fs40[3]? = some (.ref fm) := by rw [hz40, List.getElem?_set_ne (by decide)]; exact g36_3
  have g40_4 : fs40[4]? = some (.int (nI 0)) := by rw [hz40, List.getElem?_set_ne (by decide)]; exact g36_4
  have g40_5 : fs40[5]? = some (.ref b1) := by rw [hz40, List.getElem?_set_ne (by decide)]; exact g36_5
  have g40_6 : fs40[6]? = some (.ref b2) := by rw [hz40, List.getElem?_set_ne (by decide)]; exact g36_6
  have g40_7 : fs40[7]? = some (.ref b3) := by rw [hz40, List.getElem?_set_ne (by decide)]; exact g36_7
  have g40_8 : fs40[8]? = some (.ref b4) := by rw [hz40, List.getElem?_set_ne (by decide)]; exact g36_8
  have g40_9 : fs40[9]? = some (.ref o1) := by rw [hz40, List.getElem?_set_ne (by decide)]; exact g36_9
  have g40_10 : fs40[10]? = some (.ref o2) := by rw [hz40, List.getElem?_set_ne (by decide)]; exact g36_10
  have g40_11 : fs40[11]? = some (.ref o3) := by rw [hz40, List.getElem?_set_ne (by decide)]; exact g36_11
  have g40_12 : fs40[12]? = some (.ref o4) := by rw [hz40, List.getElem?_set_self (by rw [hlen36]; decide)]
  obtain ⟨f41, ef41⟩ : ∃ z9 : Nat → va_E, z9 = va_up f39 x (eO 7 fs40) := ⟨_, rfl⟩
  rw [← ef41] at hw
  have eL41 : L39 = L39 := rfl
  have hf41 : ∀ q : Nat, q ≠ x → f41 q = f39 q := fun q hne => by rw [ef41]; exact va_up_ne _ _ hne
  have hof41 : ∀ q ∈ L, q ≠ x → f41 q = f q := fun q h hne => (hf41 q hne).trans (hof39 q h hne)
  have h41_co : f41 co = eII G 80 (fun i => if i < 80 then some (cr i) else none) := (hf41 _ nx_co).trans h39_co
  have h41_fn : f41 fn = eI G 10 (fun _ => 0) := (hf41 _ nx_fn).trans h39_fn
  have h41_fm : f41 fm = eI G 10 (fun _ => 0) := (hf41 _ nx_fm).trans h39_fm
  have h41_b1 : f41 b1 = eJ G 11 (fun _ => 0) := (hf41 _ nx_b1).trans h39_b1
  have h41_b2 : f41 b2 = eJ G 11 (fun _ => 0) := (hf41 _ nx_b2).trans h39_b2
  have h41_b3 : f41 b3 = eJ G 11 (fun _ => 0) := (hf41 _ nx_b3).trans h39_b3
  have h41_b4 : f41 b4 = eJ G 21 (fun _ => 0) := (hf41 _ nx_b4).trans h39_b4
  have h41_o1 : f41 o1 = eO 4 fo27 := (hf41 _ nx_o1).trans h39_o1
  have h41_o2 : f41 o2 = eO 2 fo31 := (hf41 _ nx_o2).trans h39_o2
  have h41_o3 : f41 o3 = eO 1 fo35 := (hf41 _ nx_o3).trans h39_o3
  have h41_o4 : f41 o4 = eO 6 fo39 := (hf41 _ nx_o4).trans h39_o4
  have hr41 : ∀ j, j < 80 → f41 (cr j) = eI G 11 (fun _ => 0) := fun j hj => (hf41 _ (nrx j hj)).trans (hr39 j hj)
  have h41_x : f41 x = eO 7 fs40 := by rw [ef41]; exact va_up_eq _ _ _
  refine lv_aload_n hx hb dX7_init_130 rfl (lv_at hl 0 rfl) ?_
  refine k_new (own := RX7) (C := RX2) (T := TX2) (N := 11) (ci := 3) hx hb hts inX2_u tyX2 tyX2_ok hown u_251 u_252 u_253 hw rfl [.null, .null, .int 0, .null, .null, .null, .null, .null, .null, .null, .null] (by decide +kernel) (by decide) (by decide) dX7_init_131 (fun o5 H hq_o5 hw => ?_)
  obtain ⟨L42, eL42⟩ : ∃ z : List Nat, z = L39 ++ [o5] := ⟨_, rfl⟩
  obtain ⟨f42, ef42⟩ : ∃ z : Nat → va_E, z = va_up f41 o5 (eO 3 [.null, .null, .int 0, .null, .null, .null, .null, .null, .null, .null, .null]) := ⟨_, rfl⟩
  rw [← eL42, ← ef42] at hw
  have hm42 : ∀ q ∈ L39, q ∈ L42 := fun q h => by rw [eL42]; exact List.mem_append_left _ h
  have hf42 : ∀ q ∈ L39, True → f42 q = f41 q := fun q h hne => by rw [ef42]; exact va_up_ne _ _ (fun h9 => hq_o5 (by rw [← h9]; exact h))
  have hsub42 : ∀ q ∈ L, q ∈ L42 := fun q h => hm42 q (hsub39 q h)
  have hof42 : ∀ q ∈ L, q ≠ x → f42 q = f q := fun q h hne => (hf42 q (hsub39 q h) trivial).trans (hof41 q h hne)
  have m42_x : x ∈ L42 := hm42 _ m39_x
  have h42_x : f42 x = eO 7 fs40 := (hf42 _ m39_x trivial).trans h41_x
  have m42_co : co ∈ L42 := hm42 _ m39_co
  have h42_co : f42 co = eII G 80 (fun i => if i < 80 then some (cr i) else none) := (hf42 _ m39_co trivial).trans h41_co
  have m42_fn : fn ∈ L42 := hm42 _ m39_fn
  have h42_fn : f42 fn = eI G 10 (fun _ => 0) := (hf42 _ m39_fn trivial).trans h41_fn
  have m42_fm : fm ∈ L42 := hm42 _ m39_fm
  have h42_fm : f42 fm = eI G 10 (fun _ => 0) := (hf42 _ m39_fm trivial).trans h41_fm
  have m42_b1 : b1 ∈ L42 := hm42 _ m39_b1
  have h42_b1 : f42 b1 = eJ G 11 (fun _ => 0) := (hf42 _ m39_b1 trivial).trans h41_b1
  have m42_b2 : b2 ∈ L42 := hm42 _ m39_b2
  have h42_b2 : f42 b2 = eJ G 11 (fun _ => 0) := (hf42 _ m39_b2 trivial).trans h41_b2
  have m42_b3 : b3 ∈ L42 := hm42 _ m39_b3
  have h42_b3 : f42 b3 = eJ G 11 (fun _ => 0) := (hf42 _ m39_b3 trivial).trans h41_b3
  have m42_b4 : b4 ∈ L42 := hm42 _ m39_b4
  have h42_b4 : f42 b4 = eJ G 21 (fun _ => 0) := (hf42 _ m39_b4 trivial).trans h41_b4
  have m42_o1 : o1 ∈ L42 := hm42 _ m39_o1
  have h42_o1 : f42 o1 = eO 4 fo27 := (hf42 _ m39_o1 trivial).trans h41_o1
  have m42_o2 : o2 ∈ L42 := hm42 _ m39_o2
  have h42_o2 : f42 o2 = eO 2 fo31 := (hf42 _ m39_o2 trivial).trans h41_o2
  have m42_o3 : o3 ∈ L42 := hm42 _ m39_o3
  have h42_o3 : f42 o3 = eO 1 fo35 := (hf42 _ m39_o3 trivial).trans h41_o3
  have m42_o4 : o4 ∈ L42 := hm42 _ m39_o4
  have h42_o4 : f42 o4 = eO 6 fo39 := (hf42 _ m39_o4 trivial).trans h41_o4
  have mr42 : ∀ j, j < 80 → cr j ∈ L42 := fun j hj => hm42 _ (mr39 j hj)
  have hr42 : ∀ j, j < 80 → f42 (cr j) = eI G 11 (fun _ => 0) := fun j hj => (hf42 _ (mr39 j hj) trivial).trans (hr41 j hj)
  have mq_o5 : o5 ∈ L42 := by rw [eL42]; exact List.mem_append_right _ (List.mem_singleton.mpr rfl)
  have hv_o5 : f42 o5 = eO 3 [.null, .null, .int 0, .null, .null, .null, .null, .null, .null, .null, .null] := by rw [ef42]; exact va_up_eq _ _ _
  have nx_o5 : o5 ≠ x := fun h9 => hq_o5 (by rw [h9]; exact m39_x)
  have nn_x_o5 : x ≠ o5 := fun h9 => hq_o5 (by rw [← h9]; exact m39_x)
  have nn_co_o5 : co ≠ o5 := fun h9 => hq_o5 (by rw [← h9]; exact m39_co)
  have nn_fn_o5 : fn ≠ o5 := fun h9 => hq_o5 (by rw [← h9]; exact m39_fn)
  have nn_fm_o5 : fm ≠ o5 := fun h9 => hq_o5 (by rw [← h9]; exact m39_fm)
  have nn_b1_o5 : b1 ≠ o5 := fun h9 => hq_o5 (by rw [← h9]; exact m39_b1)
  have nn_b2_o5 : b2 ≠ o5 := fun h9 => hq_o5 (by rw [← h9]; exact m39_b2)
  have nn_b3_o5 : b3 ≠ o5 := fun h9 => hq_o5 (by rw [← h9]; exact m39_b3)
  have nn_b4_o5 : b4 ≠ o5 := fun h9 => hq_o5 (by rw [← h9]; exact m39_b4)
  have nn_o1_o5 : o1 ≠ o5 := fun h9 => hq_o5 (by rw [← h9]; exact m39_o1)
  have nn_o2_o5 : o2 ≠ o5 := fun h9 => hq_o5 (by rw [← h9]; exact m39_o2)
  have nn_o3_o5 : o3 ≠ o5 := fun h9 => hq_o5 (by rw [← h9]; exact m39_o3)
  have nn_o4_o5 : o4 ≠ o5 := fun h9 => hq_o5 (by rw [← h9]; exact m39_o4)
  have nl_o5 : o5 ∉ L := fun h9 => hq_o5 (hsub39 _ h9)
  have nr_o5 : ∀ j, j < 80 → cr j ≠ o5 := fun j hj h9 => hq_o5 (by rw [← h9]; exact mr39 j hj)
  refine lv_dup hx hb dX7_init_134 rfl ?_
  refine lv_aload_n hx hb dX7_init_135 rfl (lv_at hl 0 rfl) ?_
  refine w_get (C := RX7) (T := TX7) (N := 15) (ci := 7) (ref := "LiftFactors") (v := .ref o1) hx hb hts inX7_u hown hw m42_x h42_x rfl 9 (by decide) u_228 rfl g40_9 dX7_init_136 ?_
  refine lv_aload_n hx hb dX7_init_139 rfl (lv_at hl 0 rfl) ?_
  refine w_get (C := RX7) (T := TX7) (N := 15) (ci := 7) (ref := "LiftFactors") (v := .ref o2) hx hb hts inX7_u hown hw m42_x h42_x rfl 10 (by decide) u_235 rfl g40_10 dX7_init_140 ?_
  refine lv_aload_n hx hb dX7_init_143 rfl (lv_at hl 0 rfl) ?_
  refine w_get (C := RX7) (T := TX7) (N := 15) (ci := 7) (ref := "LiftFactors") (v := .ref o3) hx hb hts inX7_u hown hw m42_x h42_x rfl 11 (by decide) u_143 rfl g40_11 dX7_init_144 ?_
  refine lv_aload_n hx hb dX7_init_147 rfl (lv_at hl 0 rfl) ?_
  refine w_get (C := RX7) (T := TX7) (N := 15) (ci := 7) (ref := "LiftFactors") (v := .ref o4) hx hb hts inX7_u hown hw m42_x h42_x rfl 12 (by decide) u_250 rfl g40_12 dX7_init_148 ?_
  refine k_callI (As := [.ref o1, .ref o2, .ref o3, .ref o4]) (rest := [.ref o5, .ref x]) cx.fix hk hw (k_X2_init l G L42 f42 _ o1 o2 o3 o4 o5 [.null, .null, .int 0, .null, .null, .null, .null, .null, .null, .null, .null] mq_o5 hv_o5 rfl) (k_cI 4 hts u_254 u_255 u_256 u_257 rfl rfl (by decide) (by decide) (by decide)) hl.1 rfl (lv_room (Nat.le_of_ble_eq_true rfl)) dX7_init_151 (by decide) (fun u H locs hp hw => ?_)
  obtain ⟨L43, f43⟩ := u
  have hw : wH G A s.heap s L43 f43 H locs := hw
  obtain ⟨hm43, hf43, fo43, hfo43, hfn43⟩ := hp
  have hm43 : ∀ q ∈ L42, q ∈ L43 := hm43
  have hf43 : ∀ q ∈ L42, q ≠ o5 → f43 q = f42 q := hf43
  have hsub43 : ∀ q ∈ L, q ∈ L43 := fun q h => hm43 q (hsub42 q h)
  have hof43 : ∀ q ∈ L, q ≠ x → f43 q = f q := fun q h hne => (hf43 q (hsub42 q h) (fun h9 => nl_o5 (by rw [← h9]; exact h))).trans (hof42 q h hne)
  have m43_x : x ∈ L43 := hm43 _ m42_x
  have h43_x : f43 x = eO 7 fs40 := (hf43 _ m42_x nn_x_o5).trans h42_x
  have m43_co : co ∈ L43 := hm43 _ m42_co
  have h43_co : f43 co = eII G 80 (fun i => if i < 80 then some (cr i) else none) := (hf43 _ m42_co nn_co_o5).trans h42_co
  have m43_fn : fn ∈ L43 := hm43 _ m42_fn
  have h43_fn : f43 fn = eI G 10 (fun _ => 0) := (hf43 _ m42_fn nn_fn_o5).trans h42_fn
  have m43_fm : fm ∈ L43 := hm43 _ m42_fm
  have h43_fm : f43 fm = eI G 10 (fun _ => 0) := (hf43 _ m42_fm nn_fm_o5).trans h42_fm
  have m43_b1 : b1 ∈ L43 := hm43 _ m42_b1
  have h43_b1 : f43 b1 = eJ G 11 (fun _ => 0) := (hf43 _ m42_b1 nn_b1_o5).trans h42_b1
  have m43_b2 : b2 ∈ L43 := hm43 _ m42_b2
  have h43_b2 : f43 b2 = eJ G 11 (fun _ => 0) := (hf43 _ m42_b2 nn_b2_o5).trans h42_b2
  have m43_b3 : b3 ∈ L43 := hm43 _ m42_b3
  have h43_b3 : f43 b3 = eJ G 11 (fun _ => 0) := (hf43 _ m42_b3 nn_b3_o5).trans h42_b3
  have m43_b4 : b4 ∈ L43 := hm43 _ m42_b4
  have h43_b4 : f43 b4 = eJ G 21 (fun _ => 0) := (hf43 _ m42_b4 nn_b4_o5).trans h42_b4
  have m43_o1 : o1 ∈ L43 := hm43 _ m42_o1
  have h43_o1 : f43 o1 = eO 4 fo27 := (hf43 _ m42_o1 nn_o1_o5).trans h42_o1
  have m43_o2 : o2 ∈ L43 := hm43 _ m42_o2
  have h43_o2 : f43 o2 = eO 2 fo31 := (hf43 _ m42_o2 nn_o2_o5).trans h42_o2
  have m43_o3 : o3 ∈ L43 := hm43 _ m42_o3
  have h43_o3 : f43 o3 = eO 1 fo35 := (hf43 _ m42_o3 nn_o3_o5).trans h42_o3
  have m43_o4 : o4 ∈ L43 := hm43 _ m42_o4
  have h43_o4 : f43 o4 = eO 6 fo39 := (hf43 _ m42_o4 nn_o4_o5).trans h42_o4
  have m43_o5 : o5 ∈ L43 := hm43 _ mq_o5
  have h43_o5 : f43 o5 = eO 3 fo43 := hfo43
  have mr43 : ∀ j, j < 80 → cr j ∈ L43 := fun j hj => hm43 _ (mr42 j hj)
  have hr43 : ∀ j, j < 80 → f43 (cr j) = eI G 11 (fun _ => 0) := fun j hj => (hf43 _ (mr42 j hj) (nr_o5 j hj)).trans (hr42 j hj)
  refine k_putF (own := RX7) (C := RX7) (T := TX7) (N := 15) (ci := 7) (ty := (.object "LiftFactors$Factorizer")) (v := .ref o5) hx hb hts inX7_u tyX7 tyX7_ok nmX7 hown hw m43_x h43_x rfl 13 (by decide) u_258 rfl rfl hin (by decide +kernel) rfl rfl (by rw [hlen40]; decide) dX7_init_154 (fun H locs hw => ?_)
  obtain ⟨fs44, hz44⟩ : ∃ zz9, zz9 = fs40.set 13 (.ref o5) := ⟨_, rfl⟩
  rw [← hz44] at hw
  have hlen44 : fs44.length = 15 := by rw [hz44, List.length_set]; exact hlen40
  have g44_0 : fs44[0]? = some (.ref co) := by rw [hz44, List.getElem?_set_ne (by decide)]; exact g40_0
  have g44_1 : fs44[1]? = some (.int (nI 0)) := by rw [hz44, List.getElem?_set_ne (by decide)]; exact g40_1
  have g44_2 : fs44[2]? = some (.ref fn) := by rw [hz44, List.getElem?_set_ne (by decide)]; exact g40_2
  have g44_3 : fs44[3]? = some (.ref fm) := by rw [hz44, List.getElem?_set_ne (by decide)]; exact g40_3
  have g44_4 : fs44[4]? = some (.int (nI 0)) := by rw [hz44, List.getElem?_set_ne (by decide)]; exact g40_4
  have g44_5 : fs44[5]? = some (.ref b1) := by rw [hz44, List.getElem?_set_ne (by decide)]; exact g40_5
  have g44_6 : fs44[6]? = some (.ref b2) := by rw [hz44, List.getElem?_set_ne (by decide)]; exact g40_6
  have g44_7 : fs44[7]? = some (.ref b3) := by rw [hz44, List.getElem?_set_ne (by decide)]; exact g40_7
  have g44_8 : fs44[8]? = some (.ref b4) := by rw [hz44, List.getElem?_set_ne (by decide)]; exact g40_8
  have g44_9 : fs44[9]? = some (.ref o1) := by rw [hz44, List.getElem?_set_ne (by decide)]; exact g40_9
  have g44_10 : fs44[10]? = some (.ref o2) := by rw [hz44, List.getElem?_set_ne (by decide)]; exact g40_10
  have g44_11 : fs44[11]? = some (.ref o3) := by rw [hz44, List.getElem?_set_ne (by decide)]; exact g40_11
  have g44_12 : fs44[12]? = some (.ref o4) := by rw [hz44, List.getElem?_set_ne (by decide)]; exact g40_12
  have g44_13 : fs44[13]? = some (.ref o5) := by rw [hz44, List.getElem?_set_self (by rw [hlen40]; decide)]
  obtain ⟨f45, ef45⟩ : ∃ z9 : Nat → va_E, z9 = va_up f43 x (eO 7 fs44) := ⟨_, rfl⟩
  rw [← ef45] at hw
  have eL45 : L43 = L43 := rfl
  have hf45 : ∀ q : Nat, q ≠ x → f45 q = f43 q := fun q hne => by rw [ef45]; exact va_up_ne _ _ hne
  have hof45 : ∀ q ∈ L, q ≠ x → f45 q = f q := fun q h hne => (hf45 q hne).trans (hof43 q h hne)
  have h45_co : f45 co = eII G 80 (fun i => if i < 80 then some (cr i) else none) := (hf45 _ nx_co).trans h43_co
  have h45_fn : f45 fn = eI G 10 (fun _ => 0) := (hf45 _ nx_fn).trans h43_fn
  have h45_fm : f45 fm = eI G 10 (fun _ => 0) := (hf45 _ nx_fm).trans h43_fm
  have h45_b1 : f45 b1 = eJ G 11 (fun _ => 0) := (hf45 _ nx_b1).trans h43_b1
  have h45_b2 : f45 b2 = eJ G 11 (fun _ => 0) := (hf45 _ nx_b2).trans h43_b2
  have h45_b3 : f45 b3 = eJ G 11 (fun _ => 0) := (hf45 _ nx_b3).trans h43_b3
  have h45_b4 : f45 b4 = eJ G 21 (fun _ => 0) := (hf45 _ nx_b4).trans h43_b4
  have h45_o1 : f45 o1 = eO 4 fo27 := (hf45 _ nx_o1).trans h43_o1
  have h45_o2 : f45 o2 = eO 2 fo31 := (hf45 _ nx_o2).trans h43_o2
  have h45_o3 : f45 o3 = eO 1 fo35 := (hf45 _ nx_o3).trans h43_o3
  have h45_o4 : f45 o4 = eO 6 fo39 := (hf45 _ nx_o4).trans h43_o4
  have h45_o5 : f45 o5 = eO 3 fo43 := (hf45 _ nx_o5).trans h43_o5
  have hr45 : ∀ j, j < 80 → f45 (cr j) = eI G 11 (fun _ => 0) := fun j hj => (hf45 _ (nrx j hj)).trans (hr43 j hj)
  have h45_x : f45 x = eO 7 fs44 := by rw [ef45]; exact va_up_eq _ _ _
  refine lv_aload_n hx hb dX7_init_157 rfl (lv_at hl 0 rfl) ?_
  refine k_new (own := RX7) (C := RX4) (T := TX4) (N := 5) (ci := 5) hx hb hts inX4_u tyX4 tyX4_ok hown u_259 u_260 u_261 hw rfl [.null, .null, .int 0, .null, .null] (by decide +kernel) (by decide) (by decide) dX7_init_158 (fun o6 H hq_o6 hw => ?_)
  obtain ⟨L46, eL46⟩ : ∃ z : List Nat, z = L43 ++ [o6] := ⟨_, rfl⟩
  obtain ⟨f46, ef46⟩ : ∃ z : Nat → va_E, z = va_up f45 o6 (eO 5 [.null, .null, .int 0, .null, .null]) := ⟨_, rfl⟩
  rw [← eL46, ← ef46] at hw
  have hm46 : ∀ q ∈ L43, q ∈ L46 := fun q h => by rw [eL46]; exact List.mem_append_left _ h
  have hf46 : ∀ q ∈ L43, True → f46 q = f45 q := fun q h hne => by rw [ef46]; exact va_up_ne _ _ (fun h9 => hq_o6 (by rw [← h9]; exact h))
  have hsub46 : ∀ q ∈ L, q ∈ L46 := fun q h => hm46 q (hsub43 q h)
  have hof46 : ∀ q ∈ L, q ≠ x → f46 q = f q := fun q h hne => (hf46 q (hsub43 q h) trivial).trans (hof45 q h hne)
  have m46_x : x ∈ L46 := hm46 _ m43_x
  have h46_x : f46 x = eO 7 fs44 := (hf46 _ m43_x trivial).trans h45_x
  have m46_co : co ∈ L46 := hm46 _ m43_co
  have h46_co : f46 co = eII G 80 (fun i => if i < 80 then some (cr i) else none) := (hf46 _ m43_co trivial).trans h45_co
  have m46_fn : fn ∈ L46 := hm46 _ m43_fn
  have h46_fn : f46 fn = eI G 10 (fun _ => 0) := (hf46 _ m43_fn trivial).trans h45_fn
  have m46_fm : fm ∈ L46 := hm46 _ m43_fm
  have h46_fm : f46 fm = eI G 10 (fun _ => 0) := (hf46 _ m43_fm trivial).trans h45_fm
  have m46_b1 : b1 ∈ L46 := hm46 _ m43_b1
  have h46_b1 : f46 b1 = eJ G 11 (fun _ => 0) := (hf46 _ m43_b1 trivial).trans h45_b1
  have m46_b2 : b2 ∈ L46 := hm46 _ m43_b2
  have h46_b2 : f46 b2 = eJ G 11 (fun _ => 0) := (hf46 _ m43_b2 trivial).trans h45_b2
  have m46_b3 : b3 ∈ L46 := hm46 _ m43_b3
  have h46_b3 : f46 b3 = eJ G 11 (fun _ => 0) := (hf46 _ m43_b3 trivial).trans h45_b3
  have m46_b4 : b4 ∈ L46 := hm46 _ m43_b4
  have h46_b4 : f46 b4 = eJ G 21 (fun _ => 0) := (hf46 _ m43_b4 trivial).trans h45_b4
  have m46_o1 : o1 ∈ L46 := hm46 _ m43_o1
  have h46_o1 : f46 o1 = eO 4 fo27 := (hf46 _ m43_o1 trivial).trans h45_o1
  have m46_o2 : o2 ∈ L46 := hm46 _ m43_o2
  have h46_o2 : f46 o2 = eO 2 fo31 := (hf46 _ m43_o2 trivial).trans h45_o2
  have m46_o3 : o3 ∈ L46 := hm46 _ m43_o3
  have h46_o3 : f46 o3 = eO 1 fo35 := (hf46 _ m43_o3 trivial).trans h45_o3
  have m46_o4 : o4 ∈ L46 := hm46 _ m43_o4
  have h46_o4 : f46 o4 = eO 6 fo39 := (hf46 _ m43_o4 trivial).trans h45_o4
  have m46_o5 : o5 ∈ L46 := hm46 _ m43_o5
  have h46_o5 : f46 o5 = eO 3 fo43 := (hf46 _ m43_o5 trivial).trans h45_o5
  have mr46 : ∀ j, j < 80 → cr j ∈ L46 := fun j hj => hm46 _ (mr43 j hj)
  have hr46 : ∀ j, j < 80 → f46 (cr j) = eI G 11 (fun _ => 0) := fun j hj => (hf46 _ (mr43 j hj) trivial).trans (hr45 j hj)
  have mq_o6 : o6 ∈ L46 := by rw [eL46]; exact List.mem_append_right _ (List.mem_singleton.mpr rfl)
  have hv_o6 : f46 o6 = eO 5 [.null, .null, .int 0, .null, .null] := by rw [ef46]; exact va_up_eq _ _ _
  have nx_o6 : o6 ≠ x := fun h9 => hq_o6 (by rw [h9]; exact m43_x)
  have nn_x_o6 : x ≠ o6 := fun h9 => hq_o6 (by rw [← h9]; exact m43_x)
  have nn_co_o6 : co ≠ o6 := fun h9 => hq_o6 (by rw [← h9]; exact m43_co)
  have nn_fn_o6 : fn ≠ o6 := fun h9 => hq_o6 (by rw [← h9]; exact m43_fn)
  have nn_fm_o6 : fm ≠ o6 := fun h9 => hq_o6 (by rw [← h9]; exact m43_fm)
  have nn_b1_o6 : b1 ≠ o6 := fun h9 => hq_o6 (by rw [← h9]; exact m43_b1)
  have nn_b2_o6 : b2 ≠ o6 := fun h9 => hq_o6 (by rw [← h9]; exact m43_b2)
  have nn_b3_o6 : b3 ≠ o6 := fun h9 => hq_o6 (by rw [← h9]; exact m43_b3)
  have nn_b4_o6 : b4 ≠ o6 := fun h9 => hq_o6 (by rw [← h9]; exact m43_b4)
  have nn_o1_o6 : o1 ≠ o6 := fun h9 => hq_o6 (by rw [← h9]; exact m43_o1)
  have nn_o2_o6 : o2 ≠ o6 := fun h9 => hq_o6 (by rw [← h9]; exact m43_o2)
  have nn_o3_o6 : o3 ≠ o6 := fun h9 => hq_o6 (by rw [← h9]; exact m43_o3)
  have nn_o4_o6 : o4 ≠ o6 := fun h9 => hq_o6 (by rw [← h9]; exact m43_o4)
  have nn_o5_o6 : o5 ≠ o6 := fun h9 => hq_o6 (by rw [← h9]; exact m43_o5)
  have nl_o6 : o6 ∉ L := fun h9 => hq_o6 (hsub43 _ h9)
  have nr_o6 : ∀ j, j < 80 → cr j ≠ o6 := fun j hj h9 => hq_o6 (by rw [← h9]; exact mr43 j hj)
  refine lv_dup hx hb dX7_init_161 rfl ?_
  refine k_callIN (As := []) (rest := [.ref o6, .ref x]) cx.fix hk hw (k_X4_init l G L46 f46 _  o6 [.null, .null, .int 0, .null, .null] mq_o6 hv_o6 rfl) (k_cIN 0 hts hk.2.2.2.2 u_262 u_263 u_264 rfl rfl (by decide) (by decide) (by decide)) hl.1 rfl (lv_room (Nat.le_of_ble_eq_true rfl)) dX7_init_162 (by decide) (fun u H locs hp hw => ?_)
  obtain ⟨L47, f47⟩ := u
  have hw : wH G A s.heap s L47 f47 H locs := hw
  obtain ⟨hm47, hf47, fo47, hfo47, hfn47⟩ := hp
  have hm47 : ∀ q ∈ L46, q ∈ L47 := hm47
  have hf47 : ∀ q ∈ L46, q ≠ o6 → f47 q = f46 q := hf47
  have hsub47 : ∀ q ∈ L, q ∈ L47 := fun q h => hm47 q (hsub46 q h)
  have hof47 : ∀ q ∈ L, q ≠ x → f47 q = f q := fun q h hne => (hf47 q (hsub46 q h) (fun h9 => nl_o6 (by rw [← h9]; exact h))).trans (hof46 q h hne)
  have m47_x : x ∈ L47 := hm47 _ m46_x
  have h47_x : f47 x = eO 7 fs44 := (hf47 _ m46_x nn_x_o6).trans h46_x
  have m47_co : co ∈ L47 := hm47 _ m46_co
  have h47_co : f47 co = eII G 80 (fun i => if i < 80 then some (cr i) else none) := (hf47 _ m46_co nn_co_o6).trans h46_co
  have m47_fn : fn ∈ L47 := hm47 _ m46_fn
  have h47_fn : f47 fn = eI G 10 (fun _ => 0) := (hf47 _ m46_fn nn_fn_o6).trans h46_fn
  have m47_fm : fm ∈ L47 := hm47 _ m46_fm
  have h47_fm : f47 fm = eI G 10 (fun _ => 0) := (hf47 _ m46_fm nn_fm_o6).trans h46_fm
  have m47_b1 : b1 ∈ L47 := hm47 _ m46_b1
  have h47_b1 : f47 b1 = eJ G 11 (fun _ => 0) := (hf47 _ m46_b1 nn_b1_o6).trans h46_b1
  have m47_b2 : b2 ∈ L47 := hm47 _ m46_b2
  have h47_b2 : f47 b2 = eJ G 11 (fun _ => 0) := (hf47 _ m46_b2 nn_b2_o6).trans h46_b2
  have m47_b3 : b3 ∈ L47 := hm47 _ m46_b3
  have h47_b3 : f47 b3 = eJ G 11 (fun _ => 0) := (hf47 _ m46_b3 nn_b3_o6).trans h46_b3
  have m47_b4 : b4 ∈ L47 := hm47 _ m46_b4
  have h47_b4 : f47 b4 = eJ G 21 (fun _ => 0) := (hf47 _ m46_b4 nn_b4_o6).trans h46_b4
  have m47_o1 : o1 ∈ L47 := hm47 _ m46_o1
  have h47_o1 : f47 o1 = eO 4 fo27 := (hf47 _ m46_o1 nn_o1_o6).trans h46_o1
  have m47_o2 : o2 ∈ L47 := hm47 _ m46_o2
  have h47_o2 : f47 o2 = eO 2 fo31 := (hf47 _ m46_o2 nn_o2_o6).trans h46_o2
  have m47_o3 : o3 ∈ L47 := hm47 _ m46_o3
  have h47_o3 : f47 o3 = eO 1 fo35 := (hf47 _ m46_o3 nn_o3_o6).trans h46_o3
  have m47_o4 : o4 ∈ L47 := hm47 _ m46_o4
  have h47_o4 : f47 o4 = eO 6 fo39 := (hf47 _ m46_o4 nn_o4_o6).trans h46_o4
  have m47_o5 : o5 ∈ L47 := hm47 _ m46_o5
  have h47_o5 : f47 o5 = eO 3 fo43 := (hf47 _ m46_o5 nn_o5_o6).trans h46_o5
  have m47_o6 : o6 ∈ L47 := hm47 _ mq_o6
  have h47_o6 : f47 o6 = eO 5 fo47 := hfo47
  have mr47 : ∀ j, j < 80 → cr j ∈ L47 := fun j hj => hm47 _ (mr46 j hj)
  have hr47 : ∀ j, j < 80 → f47 (cr j) = eI G 11 (fun _ => 0) := fun j hj => (hf47 _ (mr46 j hj) (nr_o6 j hj)).trans (hr46 j hj)
  refine k_putF (own := RX7) (C := RX7) (T := TX7) (N := 15) (ci := 7) (ty := (.object "LiftFactors$RootFinder")) (v := .ref o6) hx hb hts inX7_u tyX7 tyX7_ok nmX7 hown hw m47_x h47_x rfl 14 (by decide) u_135 rfl rfl hin (by decide +kernel) rfl rfl (by rw [hlen44]; decide) dX7_init_165 (fun H locs hw => ?_)
  obtain ⟨fs48, hz48⟩ : ∃ zz9, zz9 = fs44.set 14 (.ref o6) := ⟨_, rfl⟩
  rw [← hz48] at hw
  have hlen48 : fs48.length = 15 := by rw [hz48, List.length_set]; exact hlen44
  have g48_0 : fs48[0]? = some (.ref co) := by rw [hz48, List.getElem?_set_ne (by decide)]; exact g44_0
  have g48_1 : fs48[1]? = some (.int (nI 0)) := by rw [hz48, List.getElem?_set_ne (by decide)]; exact g44_1
  have g48_2 : fs48[2]? = some (.ref fn) := by rw [hz48, List.getElem?_set_ne (by decide)]; exact g44_2
  have g48_3 : fs48[3]? = some (.ref fm) := by rw [hz48, List.getElem?_set_ne (by decide)]; exact g44_3
  have g48_4 : fs48[4]? = some (.int (nI 0)) := by rw [hz48, List.getElem?_set_ne (by decide)]; exact g44_4
  have g48_5 : fs48[5]? = some (.ref b1) := by rw [hz48, List.getElem?_set_ne (by decide)]; exact g44_5
  have g48_6 : fs48[6]? = some (.ref b2) := by rw [hz48, List.getElem?_set_ne (by decide)]; exact g44_6
  have g48_7 : fs48[7]? = some (.ref b3) := by rw [hz48, List.getElem?_set_ne (by decide)]; exact g44_7
  have g48_8 : fs48[8]? = some (.ref b4) := by rw [hz48, List.getElem?_set_ne (by decide)]; exact g44_8
  have g48_9 : fs48[9]? = some (.ref o1) := by rw [hz48, List.getElem?_set_ne (by decide)]; exact g44_9
  have g48_10 : fs48[10]? = some (.ref o2) := by rw [hz48, List.getElem?_set_ne (by decide)]; exact g44_10
  have g48_11 : fs48[11]? = some (.ref o3) := by rw [hz48, List.getElem?_set_ne (by decide)]; exact g44_11
  have g48_12 : fs48[12]? = some (.ref o4) := by rw [hz48, List.getElem?_set_ne (by decide)]; exact g44_12
  have g48_13 : fs48[13]? = some (.ref o5) := by rw [hz48, List.getElem?_set_ne (by decide)]; exact g44_13
  have g48_14 : fs48[14]? = some (.ref o6) := by rw [hz48, List.getElem?_set_self (by rw [hlen44]; decide)]
  obtain ⟨f49, ef49⟩ : ∃ z9 : Nat → va_E, z9 = va_up f47 x (eO 7 fs48) := ⟨_, rfl⟩
  rw [← ef49] at hw
  have eL49 : L47 = L47 := rfl
  have hf49 : ∀ q : Nat, q ≠ x → f49 q = f47 q := fun q hne => by rw [ef49]; exact va_up_ne _ _ hne
  have hof49 : ∀ q ∈ L, q ≠ x → f49 q = f q := fun q h hne => (hf49 q hne).trans (hof47 q h hne)
  have h49_co : f49 co = eII G 80 (fun i => if i < 80 then some (cr i) else none) := (hf49 _ nx_co).trans h47_co
  have h49_fn : f49 fn = eI G 10 (fun _ => 0) := (hf49 _ nx_fn).trans h47_fn
  have h49_fm : f49 fm = eI G 10 (fun _ => 0) := (hf49 _ nx_fm).trans h47_fm
  have h49_b1 : f49 b1 = eJ G 11 (fun _ => 0) := (hf49 _ nx_b1).trans h47_b1
  have h49_b2 : f49 b2 = eJ G 11 (fun _ => 0) := (hf49 _ nx_b2).trans h47_b2
  have h49_b3 : f49 b3 = eJ G 11 (fun _ => 0) := (hf49 _ nx_b3).trans h47_b3
  have h49_b4 : f49 b4 = eJ G 21 (fun _ => 0) := (hf49 _ nx_b4).trans h47_b4
  have h49_o1 : f49 o1 = eO 4 fo27 := (hf49 _ nx_o1).trans h47_o1
  have h49_o2 : f49 o2 = eO 2 fo31 := (hf49 _ nx_o2).trans h47_o2
  have h49_o3 : f49 o3 = eO 1 fo35 := (hf49 _ nx_o3).trans h47_o3
  have h49_o4 : f49 o4 = eO 6 fo39 := (hf49 _ nx_o4).trans h47_o4
  have h49_o5 : f49 o5 = eO 3 fo43 := (hf49 _ nx_o5).trans h47_o5
  have h49_o6 : f49 o6 = eO 5 fo47 := (hf49 _ nx_o6).trans h47_o6
  have hr49 : ∀ j, j < 80 → f49 (cr j) = eI G 11 (fun _ => 0) := fun j hj => (hf49 _ (nrx j hj)).trans (hr47 j hj)
  have h49_x : f49 x = eO 7 fs48 := by rw [ef49]; exact va_up_eq _ _ _
  refine W.widen (k := 155) (n := 1858) (by decide) (by decide) ?_
  exact w_vret (lf := fun u => u) hx hb hr hlocks (L47, f49) hw (⟨hsub47, hof49, fs48, fo47, fo35, co, b1, b2, b3, b4, o3, o6, (fun i => if i < 80 then some (cr i) else none), cr, (fun _ => 0), (fun _ => 0), (fun _ => 0), (fun _ => 0), m47_x, h49_x, hlen48, g48_0, g48_1, g48_4, g48_5, g48_6, g48_7, g48_8, g48_11, g48_14, m47_co, h49_co, (fun j hj => if_pos hj), mr47, hr49, m47_b1, h49_b1, m47_b2, h49_b2, m47_b3, h49_b3, m47_b4, h49_b4, nn_b1_b2, nn_b1_b3, nn_b2_b3, m47_o3, h49_o3, m47_o6, h49_o6, hfn47, Or.inl rfl, Or.inr ⟨m47_b1, nl_b1⟩, Or.inr ⟨m47_b2, nl_b2⟩, Or.inr ⟨m47_b3, nl_b3⟩, Or.inr ⟨m47_b4, nl_b4⟩, Or.inr ⟨m47_o6, nl_o6⟩, fun j hj => Or.inr ⟨mr47 j hj, hro j hj⟩⟩) dX7_init_168
set_option maxRecDepth 100000 in
set_option maxHeartbeats 4000000 in
theorem k_X8_init (l : Launch) (G : gG) (L : List Nat) (f : Nat → va_E) (sz : Nat) (x : Nat) (fs : List Value) (hxL : x ∈ L) (hxo : f x = eO 8 fs) (hfl : fs.length = 18) (hgv2 : fs[2]? = some (.int (nI 0))) (hgv3 : fs[3]? = some (.int (nI 0))) (hgv4 : fs[4]? = some (.int (nI 0))) :
    Met l yX8_init (uW yX8_init cX8_init 1 none) { frames := 1, cells := 11, slots := 2478, locals := 20 } (wInK G [.ref x] L f sz) (va_Qv (fun (u : List Nat × (Nat → va_E)) => kM G L f x u) (fun u => wAt G (wA L f sz) u.1 u.2) (wA L f sz)) 11 2478 (wA L f sz) := by
  refine kEnter (by decide) (by decide) (Nat.le_of_ble_eq_true rfl) ?_
  intro p e s m below meth c ls cx hin hl hw hk
  obtain ⟨hx, hb, hr, hml, hown, hts, hlocks⟩ := id cx
  have hown : s.vm.findClass RX8 = some m.cls := hown
  have hl : lv_has ls 1 [(0, .ref x)] := hl
  generalize wA L f sz = A at hw ⊢
  have hsub0 : ∀ q ∈ L, q ∈ L := fun _ h => h
  have hof0 : ∀ q ∈ L, q ≠ x → f q = f q := fun _ _ _ => rfl

  refine lv_aload_n hx hb dX8_init_0 rfl (lv_at hl 0 rfl) ?_
  refine W.objInit hx hb hown (hts _ u_265) (hts _ u_173) (hts _ u_174) rfl (by rw [hml]; exact hl.1) rfl dX8_init_1 (Nat.le_of_ble_eq_true rfl) (Nat.le_of_ble_eq_true rfl) ?_
  refine W.eq (g2 := F0 m 4 ls []) rfl ?_
  refine lv_aload_n hx hb dX8_init_4 rfl (lv_at hl 0 rfl) ?_
  refine lv_bipush (v := nI 20) hx hb dX8_init_5 (by decide) ?_
  refine k_newI hx hb hts u_200 hw 20 (by decide) (by decide) (by decide) dX8_init_7 (fun pb H hq_pb hw => ?_)
  obtain ⟨L1, eL1⟩ : ∃ z : List Nat, z = L ++ [pb] := ⟨_, rfl⟩
  obtain ⟨f1, ef1⟩ : ∃ z : Nat → va_E, z = va_up f pb (eI G 20 (fun _ => 0)) := ⟨_, rfl⟩
  rw [← eL1, ← ef1] at hw
  have hm1 : ∀ q ∈ L, q ∈ L1 := fun q h => by rw [eL1]; exact List.mem_append_left _ h
  have hf1 : ∀ q ∈ L, True → f1 q = f q := fun q h hne => by rw [ef1]; exact va_up_ne _ _ (fun h9 => hq_pb (by rw [← h9]; exact h))
  have hsub1 : ∀ q ∈ L, q ∈ L1 := fun q h => hm1 q (hsub0 q h)
  have hof1 : ∀ q ∈ L, q ≠ x → f1 q = f q := fun q h hne => (hf1 q (hsub0 q h) trivial).trans (hof0 q h hne)
  have m1_x : x ∈ L1 := hm1 _ hxL
  have h1_x : f1 x = eO 8 fs := (hf1 _ hxL trivial).trans hxo
  have mq_pb : pb ∈ L1 := by rw [eL1]; exact List.mem_append_right _ (List.mem_singleton.mpr rfl)
  have hv_pb : f1 pb = eI G 20 (fun _ => 0) := by rw [ef1]; exact va_up_eq _ _ _
  have nx_pb : pb ≠ x := fun h9 => hq_pb (by rw [h9]; exact hxL)
  have nn_x_pb : x ≠ pb := fun h9 => hq_pb (by rw [← h9]; exact hxL)
  have nl_pb : pb ∉ L := fun h9 => hq_pb (hsub0 _ h9)
  refine lv_dup hx hb dX8_init_9 rfl ?_
  refine lv_iconst (v := nI 0) hx hb dX8_init_10 (by decide) ?_
  refine lv_bipush (v := nI 11) hx hb dX8_init_11 (by decide) ?_
  refine n_iast hx hb hw mq_pb hv_pb 0 (by decide) (by decide) dX8_init_13 (fun H locs hw => ?_)
  obtain ⟨r2, er2⟩ : ∃ z9 : Nat → Int32, z9 = upd (fun _ => 0) 0 (nI 11) := ⟨_, rfl⟩
  rw [← er2] at hw
  obtain ⟨f2, ef2⟩ : ∃ z9 : Nat → va_E, z9 = va_up f1 pb (eI G 20 r2) := ⟨_, rfl⟩
  rw [← ef2] at hw
  have hf2 : ∀ q : Nat, q ≠ pb → f2 q = f1 q := fun q hne => by rw [ef2]; exact va_up_ne _ _ hne
  have hof2 : ∀ q ∈ L, q ≠ x → f2 q = f q := fun q h hne => (hf2 q (fun h9 => nl_pb (by rw [← h9]; exact h))).trans (hof1 q h hne)
  have h2_pb : f2 pb = eI G 20 r2 := by rw [ef2]; exact va_up_eq _ _ _
  have h2_x : f2 x = eO 8 fs := (hf2 x nx_pb.symm).trans h1_x
  refine lv_dup hx hb dX8_init_14 rfl ?_
  refine lv_iconst (v := nI 1) hx hb dX8_init_15 (by decide) ?_
  refine lv_bipush (v := nI 39) hx hb dX8_init_16 (by decide) ?_
  refine n_iast hx hb hw mq_pb h2_pb 1 (by decide) (by decide) dX8_init_18 (fun H locs hw => ?_)
  obtain ⟨r3, er3⟩ : ∃ z9 : Nat → Int32, z9 = upd r2 1 (nI 39) := ⟨_, rfl⟩
  rw [← er3] at hw
  obtain ⟨f3, ef3⟩ : ∃ z9 : Nat → va_E, z9 = va_up f2 pb (eI G 20 r3) := ⟨_, rfl⟩
  rw [← ef3] at hw
  have hf3 : ∀ q : Nat, q ≠ pb → f3 q = f2 q := fun q hne => by rw [ef3]; exact va_up_ne _ _ hne
  have hof3 : ∀ q ∈ L, q ≠ x → f3 q = f q := fun q h hne => (hf3 q (fun h9 => nl_pb (by rw [← h9]; exact h))).trans (hof2 q h hne)
  have h3_pb : f3 pb = eI G 20 r3 := by rw [ef3]; exact va_up_eq _ _ _
  have h3_x : f3 x = eO 8 fs := (hf3 x nx_pb.symm).trans h2_x
  refine lv_dup hx hb dX8_init_19 rfl ?_
  refine lv_iconst (v := nI 2) hx hb dX8_init_20 (by decide) ?_
  refine lv_bipush (v := nI 41) hx hb dX8_init_21 (by decide) ?_
  refine n_iast hx hb hw mq_pb h3_pb 2 (by decide) (by decide) dX8_init_23 (fun H locs hw => ?_)
  obtain ⟨r4, er4⟩ : ∃ z9 : Nat → Int32, z9 = upd r3 2 (nI 41) := ⟨_, rfl⟩
  rw [← er4] at hw
  obtain ⟨f4, ef4⟩ : ∃ z9 : Nat → va_E, z9 = va_up f3 pb (eI G 20 r4) := ⟨_, rfl⟩
  rw [← ef4] at hw
  have hf4 : ∀ q : Nat, q ≠ pb → f4 q = f3 q := fun q hne => by rw [ef4]; exact va_up_ne _ _ hne
  have hof4 : ∀ q ∈ L, q ≠ x → f4 q = f q := fun q h hne => (hf4 q (fun h9 => nl_pb (by rw [← h9]; exact h))).trans (hof3 q h hne)
  have h4_pb : f4 pb = eI G 20 r4 := by rw [ef4]; exact va_up_eq _ _ _
  have h4_x : f4 x = eO 8 fs := (hf4 x nx_pb.symm).trans h3_x
  refine lv_dup hx hb dX8_init_24 rfl ?_
  refine lv_iconst (v := nI 3) hx hb dX8_init_25 (by decide) ?_
  refine lv_bipush (v := nI 63) hx hb dX8_init_26 (by decide) ?_
  refine n_iast hx hb hw mq_pb h4_pb 3 (by decide) (by decide) dX8_init_28 (fun H locs hw => ?_)
  obtain ⟨r5, er5⟩ : ∃ z9 : Nat → Int32, z9 = upd r4 3 (nI 63) := ⟨_, rfl⟩
  rw [← er5] at hw
  obtain ⟨f5, ef5⟩ : ∃ z9 : Nat → va_E, z9 = va_up f4 pb (eI G 20 r5) := ⟨_, rfl⟩
  rw [← ef5] at hw
  have hf5 : ∀ q : Nat, q ≠ pb → f5 q = f4 q := fun q hne => by rw [ef5]; exact va_up_ne _ _ hne
  have hof5 : ∀ q ∈ L, q ≠ x → f5 q = f q := fun q h hne => (hf5 q (fun h9 => nl_pb (by rw [← h9]; exact h))).trans (hof4 q h hne)
  have h5_pb : f5 pb = eI G 20 r5 := by rw [ef5]; exact va_up_eq _ _ _
  have h5_x : f5 x = eO 8 fs := (hf5 x nx_pb.symm).trans h4_x
  refine lv_dup hx hb dX8_init_29 rfl ?_
  refine lv_iconst (v := nI 4) hx hb dX8_init_30 (by decide) ?_
  refine lv_bipush (v := nI 101) hx hb dX8_init_31 (by decide) ?_
  refine n_iast hx hb hw mq_pb h5_pb 4 (by decide) (by decide) dX8_init_33 (fun H locs hw => ?_)
  obtain ⟨r6, er6⟩ : ∃ z9 : Nat → Int32, z9 = upd r5 4 (nI 101) := ⟨_, rfl⟩
  rw [← er6] at hw
  obtain ⟨f6, ef6⟩ : ∃ z9 : Nat → va_E, z9 = va_up f5 pb (eI G 20 r6) := ⟨_, rfl⟩
  rw [← ef6] at hw
  have hf6 : ∀ q : Nat, q ≠ pb → f6 q = f5 q := fun q hne => by rw [ef6]; exact va_up_ne _ _ hne
  have hof6 : ∀ q ∈ L, q ≠ x → f6 q = f q := fun q h hne => (hf6 q (fun h9 => nl_pb (by rw [← h9]; exact h))).trans (hof5 q h hne)
  have h6_pb : f6 pb = eI G 20 r6 := by rw [ef6]; exact va_up_eq _ _ _
  have h6_x : f6 x = eO 8 fs := (hf6 x nx_pb.symm).trans h5_x
  refine lv_dup hx hb dX8_init_34 rfl ?_
  refine lv_iconst (v := nI 5) hx hb dX8_init_35 (by decide) ?_
  refine lv_bipush (v := nI 123) hx hb dX8_init_36 (by decide) ?_
  refine n_iast hx hb hw mq_pb h6_pb 5 (by decide) (by decide) dX8_init_38 (fun H locs hw => ?_)
  obtain ⟨r7, er7⟩ : ∃ z9 : Nat → Int32, z9 = upd r6 5 (nI 123) := ⟨_, rfl⟩
  rw [← er7] at hw
  obtain ⟨f7, ef7⟩ : ∃ z9 : Nat → va_E, z9 = va_up f6 pb (eI G 20 r7) := ⟨_, rfl⟩
  rw [← ef7] at hw
  have hf7 : ∀ q : Nat, q ≠ pb → f7 q = f6 q := fun q hne => by rw [ef7]; exact va_up_ne _ _ hne
  have hof7 : ∀ q ∈ L, q ≠ x → f7 q = f q := fun q h hne => (hf7 q (fun h9 => nl_pb (by rw [← h9]; exact h))).trans (hof6 q h hne)
  have h7_pb : f7 pb = eI G 20 r7 := by rw [ef7]; exact va_up_eq _ _ _
  have h7_x : f7 x = eO 8 fs := (hf7 x nx_pb.symm).trans h6_x
  refine lv_dup hx hb dX8_init_39 rfl ?_
  refine lv_bipush (v := nI 6) hx hb dX8_init_40 (by decide) ?_
  refine lv_sipush (v := nI 137) hx hb dX8_init_42 (by decide) ?_
  refine n_iast hx hb hw mq_pb h7_pb 6 (by decide) (by decide) dX8_init_45 (fun H locs hw => ?_)
  obtain ⟨r8, er8⟩ : ∃ z9 : Nat → Int32, z9 = upd r7 6 (nI 137) := ⟨_, rfl⟩
  rw [← er8] at hw
  obtain ⟨f8, ef8⟩ : ∃ z9 : Nat → va_E, z9 = va_up f7 pb (eI G 20 r8) := ⟨_, rfl⟩
  rw [← ef8] at hw
  have hf8 : ∀ q : Nat, q ≠ pb → f8 q = f7 q := fun q hne => by rw [ef8]; exact va_up_ne _ _ hne
  have hof8 : ∀ q ∈ L, q ≠ x → f8 q = f q := fun q h hne => (hf8 q (fun h9 => nl_pb (by rw [← h9]; exact h))).trans (hof7 q h hne)
  have h8_pb : f8 pb = eI G 20 r8 := by rw [ef8]; exact va_up_eq _ _ _
  have h8_x : f8 x = eO 8 fs := (hf8 x nx_pb.symm).trans h7_x
  refine lv_dup hx hb dX8_init_46 rfl ?_
  refine lv_bipush (v := nI 7) hx hb dX8_init_47 (by decide) ?_
  refine lv_sipush (v := nI 143) hx hb dX8_init_49 (by decide) ?_
  refine n_iast hx hb hw mq_pb h8_pb 7 (by decide) (by decide) dX8_init_52 (fun H locs hw => ?_)
  obtain ⟨r9, er9⟩ : ∃ z9 : Nat → Int32, z9 = upd r8 7 (nI 143) := ⟨_, rfl⟩
  rw [← er9] at hw
  obtain ⟨f9, ef9⟩ : ∃ z9 : Nat → va_E, z9 = va_up f8 pb (eI G 20 r9) := ⟨_, rfl⟩
  rw [← ef9] at hw
  have hf9 : ∀ q : Nat, q ≠ pb → f9 q = f8 q := fun q hne => by rw [ef9]; exact va_up_ne _ _ hne
  have hof9 : ∀ q ∈ L, q ≠ x → f9 q = f q := fun q h hne => (hf9 q (fun h9 => nl_pb (by rw [← h9]; exact h))).trans (hof8 q h hne)
  have h9_pb : f9 pb = eI G 20 r9 := by rw [ef9]; exact va_up_eq _ _ _
  have h9_x : f9 x = eO 8 fs := (hf9 x nx_pb.symm).trans h8_x
  refine lv_dup hx hb dX8_init_53 rfl ?_
  refine lv_bipush (v := nI 8) hx hb dX8_init_54 (by decide) ?_
  refine lv_sipush (v := nI 153) hx hb dX8_init_56 (by decide) ?_
  refine n_iast hx hb hw mq_pb h9_pb 8 (by decide) (by decide) dX8_init_59 (fun H locs hw => ?_)
  obtain ⟨r10, er10⟩ : ∃ z9 : Nat → Int32, z9 = upd r9 8 (nI 153) := ⟨_, rfl⟩
  rw [← er10] at hw
  obtain ⟨f10, ef10⟩ : ∃ z9 : Nat → va_E, z9 = va_up f9 pb (eI G 20 r10) := ⟨_, rfl⟩
  rw [← ef10] at hw
  have hf10 : ∀ q : Nat, q ≠ pb → f10 q = f9 q := fun q hne => by rw [ef10]; exact va_up_ne _ _ hne
  have hof10 : ∀ q ∈ L, q ≠ x → f10 q = f q := fun q h hne => (hf10 q (fun h9 => nl_pb (by rw [← h9]; exact h))).trans (hof9 q h hne)
  have h10_pb : f10 pb = eI G 20 r10 := by rw [ef10]; exact va_up_eq _ _ _
  have h10_x : f10 x = eO 8 fs := (hf10 x nx_pb.symm).trans h9_x
  refine lv_dup hx hb dX8_init_60 rfl ?_
  refine lv_bipush (v := nI 9) hx hb dX8_init_61 (by decide) ?_
  refine lv_sipush (v := nI 233) hx hb dX8_init_63 (by decide) ?_
  refine n_iast hx hb hw mq_pb h10_pb 9 (by decide) (by decide) dX8_init_66 (fun H locs hw => ?_)
  obtain ⟨r11, er11⟩ : ∃ z9 : Nat → Int32, z9 = upd r10 9 (nI 233) := ⟨_, rfl⟩
  rw [← er11] at hw
  obtain ⟨f11, ef11⟩ : ∃ z9 : Nat → va_E, z9 = va_up f10 pb (eI G 20 r11) := ⟨_, rfl⟩
  rw [← ef11] at hw
  have hf11 : ∀ q : Nat, q ≠ pb → f11 q = f10 q := fun q hne => by rw [ef11]; exact va_up_ne _ _ hne
  have hof11 : ∀ q ∈ L, q ≠ x → f11 q = f q := fun q h hne => (hf11 q (fun h9 => nl_pb (by rw [← h9]; exact h))).trans (hof10 q h hne)
  have h11_pb : f11 pb = eI G 20 r11 := by rw [ef11]; exact va_up_eq _ _ _
  have h11_x : f11 x = eO 8 fs := (hf11 x nx_pb.symm).trans h10_x
  refine lv_dup hx hb dX8_init_67 rfl ?_
  refine lv_bipush (v := nI 10) hx hb dX8_init_68 (by decide) ?_
  refine lv_sipush (v := nI 293) hx hb dX8_init_70 (by decide) ?_
  refine n_iast hx hb hw mq_pb h11_pb 10 (by decide) (by decide) dX8_init_73 (fun H locs hw => ?_)
  obtain ⟨r12, er12⟩ : ∃ z9 : Nat → Int32, z9 = upd r11 10 (nI 293) := ⟨_, rfl⟩
  rw [← er12] at hw
  obtain ⟨f12, ef12⟩ : ∃ z9 : Nat → va_E, z9 = va_up f11 pb (eI G 20 r12) := ⟨_, rfl⟩
  rw [← ef12] at hw
  have hf12 : ∀ q : Nat, q ≠ pb → f12 q = f11 q := fun q hne => by rw [ef12]; exact va_up_ne _ _ hne
  have hof12 : ∀ q ∈ L, q ≠ x → f12 q = f q := fun q h hne => (hf12 q (fun h9 => nl_pb (by rw [← h9]; exact h))).trans (hof11 q h hne)
  have h12_pb : f12 pb = eI G 20 r12 := by rw [ef12]; exact va_up_eq _ _ _
  have h12_x : f12 x = eO 8 fs := (hf12 x nx_pb.symm).trans h11_x
  refine lv_dup hx hb dX8_init_74 rfl ?_
  refine lv_bipush (v := nI 11) hx hb dX8_init_75 (by decide) ?_
  refine lv_sipush (v := nI 303) hx hb dX8_init_77 (by decide) ?_
  refine n_iast hx hb hw mq_pb h12_pb 11 (by decide) (by decide) dX8_init_80 (fun H locs hw => ?_)
  obtain ⟨r13, er13⟩ : ∃ z9 : Nat → Int32, z9 = upd r12 11 (nI 303) := ⟨_, rfl⟩
  rw [← er13] at hw
  obtain ⟨f13, ef13⟩ : ∃ z9 : Nat → va_E, z9 = va_up f12 pb (eI G 20 r13) := ⟨_, rfl⟩
  rw [← ef13] at hw
  have hf13 : ∀ q : Nat, q ≠ pb → f13 q = f12 q := fun q hne => by rw [ef13]; exact va_up_ne _ _ hne
  have hof13 : ∀ q ∈ L, q ≠ x → f13 q = f q := fun q h hne => (hf13 q (fun h9 => nl_pb (by rw [← h9]; exact h))).trans (hof12 q h hne)
  have h13_pb : f13 pb = eI G 20 r13 := by rw [ef13]; exact va_up_eq _ _ _
  have h13_x : f13 x = eO 8 fs := (hf13 x nx_pb.symm).trans h12_x
  refine lv_dup hx hb dX8_init_81 rfl ?_
  refine lv_bipush (v := nI 12) hx hb dX8_init_82 (by decide) ?_
  refine lv_sipush (v := nI 327) hx hb dX8_init_84 (by decide) ?_
  refine n_iast hx hb hw mq_pb h13_pb 12 (by decide) (by decide) dX8_init_87 (fun H locs hw => ?_)
  obtain ⟨r14, er14⟩ : ∃ z9 : Nat → Int32, z9 = upd r13 12 (nI 327) := ⟨_, rfl⟩
  rw [← er14] at hw
  obtain ⟨f14, ef14⟩ : ∃ z9 : Nat → va_E, z9 = va_up f13 pb (eI G 20 r14) := ⟨_, rfl⟩
  rw [← ef14] at hw
  have hf14 : ∀ q : Nat, q ≠ pb → f14 q = f13 q := fun q hne => by rw [ef14]; exact va_up_ne _ _ hne
  have hof14 : ∀ q ∈ L, q ≠ x → f14 q = f q := fun q h hne => (hf14 q (fun h9 => nl_pb (by rw [← h9]; exact h))).trans (hof13 q h hne)
  have h14_pb : f14 pb = eI G 20 r14 := by rw [ef14]; exact va_up_eq _ _ _
  have h14_x : f14 x = eO 8 fs := (hf14 x nx_pb.symm).trans h13_x
  refine lv_dup hx hb dX8_init_88 rfl ?_
  refine lv_bipush (v := nI 13) hx hb dX8_init_89 (by decide) ?_
  refine lv_sipush (v := nI 383) hx hb dX8_init_91 (by decide) ?_
  refine n_iast hx hb hw mq_pb h14_pb 13 (by decide) (by decide) dX8_init_94 (fun H locs hw => ?_)
  obtain ⟨r15, er15⟩ : ∃ z9 : Nat → Int32, z9 = upd r14 13 (nI 383) := ⟨_, rfl⟩
  rw [← er15] at hw
  obtain ⟨f15, ef15⟩ : ∃ z9 : Nat → va_E, z9 = va_up f14 pb (eI G 20 r15) := ⟨_, rfl⟩
  rw [← ef15] at hw
  have hf15 : ∀ q : Nat, q ≠ pb → f15 q = f14 q := fun q hne => by rw [ef15]; exact va_up_ne _ _ hne
  have hof15 : ∀ q ∈ L, q ≠ x → f15 q = f q := fun q h hne => (hf15 q (fun h9 => nl_pb (by rw [← h9]; exact h))).trans (hof14 q h hne)
  have h15_pb : f15 pb = eI G 20 r15 := by rw [ef15]; exact va_up_eq _ _ _
  have h15_x : f15 x = eO 8 fs := (hf15 x nx_pb.symm).trans h14_x
  refine lv_dup hx hb dX8_init_95 rfl ?_
  refine lv_bipush (v := nI 14) hx hb dX8_init_96 (by decide) ?_
  refine lv_sipush (v := nI 389) hx hb dX8_init_98 (by decide) ?_
  refine n_iast hx hb hw mq_pb h15_pb 14 (by decide) (by decide) dX8_init_101 (fun H locs hw => ?_)
  obtain ⟨r16, er16⟩ : ∃ z9 : Nat → Int32, z9 = upd r15 14 (nI 389) := ⟨_, rfl⟩
  rw [← er16] at hw
  obtain ⟨f16, ef16⟩ : ∃ z9 : Nat → va_E, z9 = va_up f15 pb (eI G 20 r16) := ⟨_, rfl⟩
  rw [← ef16] at hw
  have hf16 : ∀ q : Nat, q ≠ pb → f16 q = f15 q := fun q hne => by rw [ef16]; exact va_up_ne _ _ hne
  have hof16 : ∀ q ∈ L, q ≠ x → f16 q = f q := fun q h hne => (hf16 q (fun h9 => nl_pb (by rw [← h9]; exact h))).trans (hof15 q h hne)
  have h16_pb : f16 pb = eI G 20 r16 := by rw [ef16]; exact va_up_eq _ _ _
  have h16_x : f16 x = eO 8 fs := (hf16 x nx_pb.symm).trans h15_x
  refine lv_dup hx hb dX8_init_102 rfl ?_
  refine lv_bipush (v := nI 15) hx hb dX8_init_103 (by decide) ?_
  refine lv_sipush (v := nI 401) hx hb dX8_init_105 (by decide) ?_
  refine n_iast hx hb hw mq_pb h16_pb 15 (by decide) (by decide) dX8_init_108 (fun H locs hw => ?_)
  obtain ⟨r17, er17⟩ : ∃ z9 : Nat → Int32, z9 = upd r16 15 (nI 401) := ⟨_, rfl⟩
  rw [← er17] at hw
  obtain ⟨f17, ef17⟩ : ∃ z9 : Nat → va_E, z9 = va_up f16 pb (eI G 20 r17) := ⟨_, rfl⟩
  rw [← ef17] at hw
  have hf17 : ∀ q : Nat, q ≠ pb → f17 q = f16 q := fun q hne => by rw [ef17]; exact va_up_ne _ _ hne
  have hof17 : ∀ q ∈ L, q ≠ x → f17 q = f q := fun q h hne => (hf17 q (fun h9 => nl_pb (by rw [← h9]; exact h))).trans (hof16 q h hne)
  have h17_pb : f17 pb = eI G 20 r17 := by rw [ef17]; exact va_up_eq _ _ _
  have h17_x : f17 x = eO 8 fs := (hf17 x nx_pb.symm).trans h16_x
  refine lv_dup hx hb dX8_init_109 rfl ?_
  refine lv_bipush (v := nI 16) hx hb dX8_init_110 (by decide) ?_
  refine lv_sipush (v := nI 411) hx hb dX8_init_112 (by decide) ?_
  refine n_iast hx hb hw mq_pb h17_pb 16 (by decide) (by decide) dX8_init_115 (fun H locs hw => ?_)
  obtain ⟨r18, er18⟩ : ∃ z9 : Nat → Int32, z9 = upd r17 16 (nI 411) := ⟨_, rfl⟩
  rw [← er18] at hw
  obtain ⟨f18, ef18⟩ : ∃ z9 : Nat → va_E, z9 = va_up f17 pb (eI G 20 r18) := ⟨_, rfl⟩
  rw [← ef18] at hw
  have hf18 : ∀ q : Nat, q ≠ pb → f18 q = f17 q := fun q hne => by rw [ef18]; exact va_up_ne _ _ hne
  have hof18 : ∀ q ∈ L, q ≠ x → f18 q = f q := fun q h hne => (hf18 q (fun h9 => nl_pb (by rw [← h9]; exact h))).trans (hof17 q h hne)
  have h18_pb : f18 pb = eI G 20 r18 := by rw [ef18]; exact va_up_eq _ _ _
  have h18_x : f18 x = eO 8 fs := (hf18 x nx_pb.symm).trans h17_x
  refine lv_dup hx hb dX8_init_116 rfl ?_
  refine lv_bipush (v := nI 17) hx hb dX8_init_117 (by decide) ?_
  refine lv_sipush (v := nI 423) hx hb dX8_init_119 (by decide) ?_
  refine n_iast hx hb hw mq_pb h18_pb 17 (by decide) (by decide) dX8_init_122 (fun H locs hw => ?_)
  obtain ⟨r19, er19⟩ : ∃ z9 : Nat → Int32, z9 = upd r18 17 (nI 423) := ⟨_, rfl⟩
  rw [← er19] at hw
  obtain ⟨f19, ef19⟩ : ∃ z9 : Nat → va_E, z9 = va_up f18 pb (eI G 20 r19) := ⟨_, rfl⟩
  rw [← ef19] at hw
  have hf19 : ∀ q : Nat, q ≠ pb → f19 q = f18 q := fun q hne => by rw [ef19]; exact va_up_ne _ _ hne
  have hof19 : ∀ q ∈ L, q ≠ x → f19 q = f q := fun q h hne => (hf19 q (fun h9 => nl_pb (by rw [← h9]; exact h))).trans (hof18 q h hne)
  have h19_pb : f19 pb = eI G 20 r19 := by rw [ef19]; exact va_up_eq _ _ _
  have h19_x : f19 x = eO 8 fs := (hf19 x nx_pb.symm).trans h18_x
  refine lv_dup hx hb dX8_init_123 rfl ?_
  refine lv_bipush (v := nI 18) hx hb dX8_init_124 (by decide) ?_
  refine lv_sipush (v := nI 429) hx hb dX8_init_126 (by decide) ?_
  refine n_iast hx hb hw mq_pb h19_pb 18 (by decide) (by decide) dX8_init_129 (fun H locs hw => ?_)
  obtain ⟨r20, er20⟩ : ∃ z9 : Nat → Int32, z9 = upd r19 18 (nI 429) := ⟨_, rfl⟩
  rw [← er20] at hw
  obtain ⟨f20, ef20⟩ : ∃ z9 : Nat → va_E, z9 = va_up f19 pb (eI G 20 r20) := ⟨_, rfl⟩
  rw [← ef20] at hw
  have hf20 : ∀ q : Nat, q ≠ pb → f20 q = f19 q := fun q hne => by rw [ef20]; exact va_up_ne _ _ hne
  have hof20 : ∀ q ∈ L, q ≠ x → f20 q = f q := fun q h hne => (hf20 q (fun h9 => nl_pb (by rw [← h9]; exact h))).trans (hof19 q h hne)
  have h20_pb : f20 pb = eI G 20 r20 := by rw [ef20]; exact va_up_eq _ _ _
  have h20_x : f20 x = eO 8 fs := (hf20 x nx_pb.symm).trans h19_x
  refine lv_dup hx hb dX8_init_130 rfl ?_
  refine lv_bipush (v := nI 19) hx hb dX8_init_131 (by decide) ?_
  refine lv_sipush (v := nI 471) hx hb dX8_init_133 (by decide) ?_
  refine n_iast hx hb hw mq_pb h20_pb 19 (by decide) (by decide) dX8_init_136 (fun H locs hw => ?_)
  obtain ⟨r21, er21⟩ : ∃ z9 : Nat → Int32, z9 = upd r20 19 (nI 471) := ⟨_, rfl⟩
  rw [← er21] at hw
  obtain ⟨f21, ef21⟩ : ∃ z9 : Nat → va_E, z9 = va_up f20 pb (eI G 20 r21) := ⟨_, rfl⟩
  rw [← ef21] at hw
  have hf21 : ∀ q : Nat, q ≠ pb → f21 q = f20 q := fun q hne => by rw [ef21]; exact va_up_ne _ _ hne
  have hof21 : ∀ q ∈ L, q ≠ x → f21 q = f q := fun q h hne => (hf21 q (fun h9 => nl_pb (by rw [← h9]; exact h))).trans (hof20 q h hne)
  have h21_pb : f21 pb = eI G 20 r21 := by rw [ef21]; exact va_up_eq _ _ _
  have h21_x : f21 x = eO 8 fs := (hf21 x nx_pb.symm).trans h20_x
  refine k_putF (own := RX8) (C := RX8) (T := TX8) (N := 18) (ci := 8) (ty := (.array .int)) (v := .ref pb) hx hb hts inX8_u tyX8 tyX8_ok nmX8 hown hw m1_x h21_x rfl 0 (by decide) u_266 rfl rfl hin (by decide +kernel) rfl rfl (by rw [hfl]; decide) dX8_init_137 (fun H locs hw => ?_)
  obtain ⟨fs22, hz22⟩ : ∃ zz9, zz9 = fs.set 0 (.ref pb) := ⟨_, rfl⟩
  rw [← hz22] at hw
  have hlen22 : fs22.length = 18 := by rw [hz22, List.length_set]; exact hfl
  have g22_2 : fs22[2]? = some (.int (nI 0)) := by rw [hz22, List.getElem?_set_ne (by decide)]; exact hgv2
  have g22_3 : fs22[3]? = some (.int (nI 0)) := by rw [hz22, List.getElem?_set_ne (by decide)]; exact hgv3
  have g22_4 : fs22[4]? = some (.int (nI 0)) := by rw [hz22, List.getElem?_set_ne (by decide)]; exact hgv4
  have g22_0 : fs22[0]? = some (.ref pb) := by rw [hz22, List.getElem?_set_self (by rw [hfl]; decide)]
  obtain ⟨f23, ef23⟩ : ∃ z9 : Nat → va_E, z9 = va_up f21 x (eO 8 fs22) := ⟨_, rfl⟩
  rw [← ef23] at hw
  have eL23 : L1 = L1 := rfl
  have hf23 : ∀ q : Nat, q ≠ x → f23 q = f21 q := fun q hne => by rw [ef23]; exact va_up_ne _ _ hne
  have hof23 : ∀ q ∈ L, q ≠ x → f23 q = f q := fun q h hne => (hf23 q hne).trans (hof21 q h hne)
  have h23_x : f23 x = eO 8 fs22 := by rw [ef23]; exact va_up_eq _ _ _
  refine lv_aload_n hx hb dX8_init_140 rfl (lv_at hl 0 rfl) ?_
  refine lv_sipush (v := nI 880) hx hb dX8_init_141 (by decide) ?_
  refine k_newI hx hb hts u_200 hw 880 (by decide) (by decide) (by decide) dX8_init_144 (fun ca H hq_ca hw => ?_)
  obtain ⟨L24, eL24⟩ : ∃ z : List Nat, z = L1 ++ [ca] := ⟨_, rfl⟩
  obtain ⟨f24, ef24⟩ : ∃ z : Nat → va_E, z = va_up f23 ca (eI G 880 (fun _ => 0)) := ⟨_, rfl⟩
  rw [← eL24, ← ef24] at hw
  have hm24 : ∀ q ∈ L1, q ∈ L24 := fun q h => by rw [eL24]; exact List.mem_append_left _ h
  have hf24 : ∀ q ∈ L1, True → f24 q = f23 q := fun q h hne => by rw [ef24]; exact va_up_ne _ _ (fun h9 => hq_ca (by rw [← h9]; exact h))
  have hsub24 : ∀ q ∈ L, q ∈ L24 := fun q h => hm24 q (hsub1 q h)
  have hof24 : ∀ q ∈ L, q ≠ x → f24 q = f q := fun q h hne => (hf24 q (hsub1 q h) trivial).trans (hof23 q h hne)
  have m24_x : x ∈ L24 := hm24 _ m1_x
  have h24_x : f24 x = eO 8 fs22 := (hf24 _ m1_x trivial).trans h23_x
  have mq_ca : ca ∈ L24 := by rw [eL24]; exact List.mem_append_right _ (List.mem_singleton.mpr rfl)
  have hv_ca : f24 ca = eI G 880 (fun _ => 0) := by rw [ef24]; exact va_up_eq _ _ _
  have nx_ca : ca ≠ x := fun h9 => hq_ca (by rw [h9]; exact m1_x)
  have nn_x_ca : x ≠ ca := fun h9 => hq_ca (by rw [← h9]; exact m1_x)
  have nl_ca : ca ∉ L := fun h9 => hq_ca (hsub1 _ h9)
  refine k_putF (own := RX8) (C := RX8) (T := TX8) (N := 18) (ci := 8) (ty := (.array .int)) (v := .ref ca) hx hb hts inX8_u tyX8 tyX8_ok nmX8 hown hw m24_x h24_x rfl 1 (by decide) u_29 rfl rfl hin (by decide +kernel) rfl rfl (by rw [hlen22]; decide) dX8_init_146 (fun H locs hw => ?_)
  obtain ⟨fs25, hz25⟩ : ∃ zz9, zz9 = fs22.set 1 (.ref ca) := ⟨_, rfl⟩
  rw [← hz25] at hw
  have hlen25 : fs25.length = 18 := by rw [hz25, List.length_set]; exact hlen22
  have g25_2 : fs25[2]? = some (.int (nI 0)) := by rw [hz25, List.getElem?_set_ne (by decide)]; exact g22_2
  have g25_3 : fs25[3]? = some (.int (nI 0)) := by rw [hz25, List.getElem?_set_ne (by decide)]; exact g22_3
  have g25_4 : fs25[4]? = some (.int (nI 0)) := by rw [hz25, List.getElem?_set_ne (by decide)]; exact g22_4
  have g25_0 : fs25[0]? = some (.ref pb) := by rw [hz25, List.getElem?_set_ne (by decide)]; exact g22_0
  have g25_1 : fs25[1]? = some (.ref ca) := by rw [hz25, List.getElem?_set_self (by rw [hlen22]; decide)]
  obtain ⟨f26, ef26⟩ : ∃ z9 : Nat → va_E, z9 = va_up f24 x (eO 8 fs25) := ⟨_, rfl⟩
  rw [← ef26] at hw
  have eL26 : L24 = L24 := rfl
  have hf26 : ∀ q : Nat, q ≠ x → f26 q = f24 q := fun q hne => by rw [ef26]; exact va_up_ne _ _ hne
  have hof26 : ∀ q ∈ L, q ≠ x → f26 q = f q := fun q h hne => (hf26 q hne).trans (hof24 q h hne)
  have h26_ca : f26 ca = eI G 880 (fun _ => 0) := (hf26 _ nx_ca).trans hv_ca
  have h26_x : f26 x = eO 8 fs25 := by rw [ef26]; exact va_up_eq _ _ _
  refine lv_aload_n hx hb dX8_init_149 rfl (lv_at hl 0 rfl) ?_
  refine lv_bipush (v := nI 10) hx hb dX8_init_150 (by decide) ?_
  refine k_newI hx hb hts u_200 hw 10 (by decide) (by decide) (by decide) dX8_init_152 (fun fn H hq_fn hw => ?_)
  obtain ⟨L27, eL27⟩ : ∃ z : List Nat, z = L24 ++ [fn] := ⟨_, rfl⟩
  obtain ⟨f27, ef27⟩ : ∃ z : Nat → va_E, z = va_up f26 fn (eI G 10 (fun _ => 0)) := ⟨_, rfl⟩
  rw [← eL27, ← ef27] at hw
  have hm27 : ∀ q ∈ L24, q ∈ L27 := fun q h => by rw [eL27]; exact List.mem_append_left _ h
  have hf27 : ∀ q ∈ L24, True → f27 q = f26 q := fun q h hne => by rw [ef27]; exact va_up_ne _ _ (fun h9 => hq_fn (by rw [← h9]; exact h))
  have hsub27 : ∀ q ∈ L, q ∈ L27 := fun q h => hm27 q (hsub24 q h)
  have hof27 : ∀ q ∈ L, q ≠ x → f27 q = f q := fun q h hne => (hf27 q (hsub24 q h) trivial).trans (hof26 q h hne)
  have m27_x : x ∈ L27 := hm27 _ m24_x
  have h27_x : f27 x = eO 8 fs25 := (hf27 _ m24_x trivial).trans h26_x
  have m27_ca : ca ∈ L27 := hm27 _ mq_ca
  have h27_ca : f27 ca = eI G 880 (fun _ => 0) := (hf27 _ mq_ca trivial).trans h26_ca
  have mq_fn : fn ∈ L27 := by rw [eL27]; exact List.mem_append_right _ (List.mem_singleton.mpr rfl)
  have hv_fn : f27 fn = eI G 10 (fun _ => 0) := by rw [ef27]; exact va_up_eq _ _ _
  have nx_fn : fn ≠ x := fun h9 => hq_fn (by rw [h9]; exact m24_x)
  have nn_x_fn : x ≠ fn := fun h9 => hq_fn (by rw [← h9]; exact m24_x)
  have nn_ca_fn : ca ≠ fn := fun h9 => hq_fn (by rw [← h9]; exact mq_ca)
  have nl_fn : fn ∉ L := fun h9 => hq_fn (hsub24 _ h9)
  refine k_putF (own := RX8) (C := RX8) (T := TX8) (N := 18) (ci := 8) (ty := (.array .int)) (v := .ref fn) hx hb hts inX8_u tyX8 tyX8_ok nmX8 hown hw m27_x h27_x rfl 5 (by decide) u_267 rfl rfl hin (by decide +kernel) rfl rfl (by rw [hlen25]; decide) dX8_init_154 (fun H locs hw => ?_)
  obtain ⟨fs28, hz28⟩ : ∃ zz9, zz9 = fs25.set 5 (.ref fn) := ⟨_, rfl⟩
  rw [← hz28] at hw
  have hlen28 : fs28.length = 18 := by rw [hz28, List.length_set]; exact hlen25
  have g28_2 : fs28[2]? = some (.int (nI 0)) := by rw [hz28, List.getElem?_set_ne (by decide)]; exact g25_2
  have g28_3 : fs28[3]? = some (.int (nI 0)) := by rw [hz28, List.getElem?_set_ne (by decide)]; exact g25_3
  have g28_4 : fs28[4]? = some (.int (nI 0)) := by rw [hz28, List.getElem?_set_ne (by decide)]; exact g25_4
  have g28_0 : fs28[0]? = some (.ref pb) := by rw [hz28, List.getElem?_set_ne (by decide)]; exact g25_0
  have g28_1 : fs28[1]? = some (.ref ca) := by rw [hz28, List.getElem?_set_ne (by decide)]; exact g25_1
  have g28_5 : fs28[5]? = some (.ref fn) := by rw [hz28, List.getElem?_set_self (by rw [hlen25]; decide)]
  obtain ⟨f29, ef29⟩ : ∃ z9 : Nat → va_E, z9 = va_up f27 x (eO 8 fs28) := ⟨_, rfl⟩
  rw [← ef29] at hw
  have eL29 : L27 = L27 := rfl
  have hf29 : ∀ q : Nat, q ≠ x → f29 q = f27 q := fun q hne => by rw [ef29]; exact va_up_ne _ _ hne
  have hof29 : ∀ q ∈ L, q ≠ x → f29 q = f q := fun q h hne => (hf29 q hne).trans (hof27 q h hne)
  have h29_ca : f29 ca = eI G 880 (fun _ => 0) := (hf29 _ nx_ca).trans h27_ca
  have h29_fn : f29 fn = eI G 10 (fun _ => 0) := (hf29 _ nx_fn).trans hv_fn
  have h29_x : f29 x = eO 8 fs28 := by rw [ef29]; exact va_up_eq _ _ _
  refine lv_aload_n hx hb dX8_init_157 rfl (lv_at hl 0 rfl) ?_
  refine lv_bipush (v := nI 10) hx hb dX8_init_158 (by decide) ?_
  refine k_newI hx hb hts u_200 hw 10 (by decide) (by decide) (by decide) dX8_init_160 (fun mu H hq_mu hw => ?_)
  obtain ⟨L30, eL30⟩ : ∃ z : List Nat, z = L27 ++ [mu] := ⟨_, rfl⟩
  obtain ⟨f30, ef30⟩ : ∃ z : Nat → va_E, z = va_up f29 mu (eI G 10 (fun _ => 0)) := ⟨_, rfl⟩
  rw [← eL30, ← ef30] at hw
  have hm30 : ∀ q ∈ L27, q ∈ L30 := fun q h => by rw [eL30]; exact List.mem_append_left _ h
  have hf30 : ∀ q ∈ L27, True → f30 q = f29 q := fun q h hne => by rw [ef30]; exact va_up_ne _ _ (fun h9 => hq_mu (by rw [← h9]; exact h))
  have hsub30 : ∀ q ∈ L, q ∈ L30 := fun q h => hm30 q (hsub27 q h)
  have hof30 : ∀ q ∈ L, q ≠ x → f30 q = f q := fun q h hne => (hf30 q (hsub27 q h) trivial).trans (hof29 q h hne)
  have m30_x : x ∈ L30 := hm30 _ m27_x
  have h30_x : f30 x = eO 8 fs28 := (hf30 _ m27_x trivial).trans h29_x
  have m30_ca : ca ∈ L30 := hm30 _ m27_ca
  have h30_ca : f30 ca = eI G 880 (fun _ => 0) := (hf30 _ m27_ca trivial).trans h29_ca
  have m30_fn : fn ∈ L30 := hm30 _ mq_fn
  have h30_fn : f30 fn = eI G 10 (fun _ => 0) := (hf30 _ mq_fn trivial).trans h29_fn
  have mq_mu : mu ∈ L30 := by rw [eL30]; exact List.mem_append_right _ (List.mem_singleton.mpr rfl)
  have hv_mu : f30 mu = eI G 10 (fun _ => 0) := by rw [ef30]; exact va_up_eq _ _ _
  have nx_mu : mu ≠ x := fun h9 => hq_mu (by rw [h9]; exact m27_x)
  have nn_x_mu : x ≠ mu := fun h9 => hq_mu (by rw [← h9]; exact m27_x)
  have nn_ca_mu : ca ≠ mu := fun h9 => hq_mu (by rw [← h9]; exact m27_ca)
  have nn_fn_mu : fn ≠ mu := fun h9 => hq_mu (by rw [← h9]; exact mq_fn)
  have nl_mu : mu ∉ L := fun h9 => hq_mu (hsub27 _ h9)
  refine k_putF (own := RX8) (C := RX8) (T := TX8) (N := 18) (ci := 8) (ty := (.array .int)) (v := .ref mu) hx hb hts inX8_u tyX8 tyX8_ok nmX8 hown hw m30_x h30_x rfl 6 (by decide) u_268 rfl rfl hin (by decide +kernel) rfl rfl (by rw [hlen28]; decide) dX8_init_162 (fun H locs hw => ?_)
  obtain ⟨fs31, hz31⟩ : ∃ zz9, zz9 = fs28.set 6 (.ref mu) := ⟨_, rfl⟩
  rw [← hz31] at hw
  have hlen31 : fs31.length = 18 := by rw [hz31, List.length_set]; exact hlen28
  have g31_2 : fs31[2]? = some (.int (nI 0)) := by rw [hz31, List.getElem?_set_ne (by decide)]; exact g28_2
  have g31_3 : fs31[3]? = some (.int (nI 0)) := by rw [hz31, List.getElem?_set_ne (by decide)]; exact g28_3
  have g31_4 : fs31[4]? = some (.int (nI 0)) := by rw [hz31, List.getElem?_set_ne (by decide)]; exact g28_4
  have g31_0 : fs31[0]? = some (.ref pb) := by rw [hz31, List.getElem?_set_ne (by decide)]; exact g28_0
  have g31_1 : fs31[1]? = some (.ref ca) := by rw [hz31, List.getElem?_set_ne (by decide)]; exact g28_1
  have g31_5 : fs31[5]? = some (.ref fn) := by rw [hz31, List.getElem?_set_ne (by decide)]; exact g28_5
  have g31_6 : fs31[6]? = some (.ref mu) := by rw [hz31, List.getElem?_set_self (by rw [hlen28]; decide)]
  obtain ⟨f32, ef32⟩ : ∃ z9 : Nat → va_E, z9 = va_up f30 x (eO 8 fs31) := ⟨_, rfl⟩
  rw [← ef32] at hw
  have eL32 : L30 = L30 := rfl
  have hf32 : ∀ q : Nat, q ≠ x → f32 q = f30 q := fun q hne => by rw [ef32]; exact va_up_ne _ _ hne
  have hof32 : ∀ q ∈ L, q ≠ x → f32 q = f q := fun q h hne => (hf32 q hne).trans (hof30 q h hne)
  have h32_ca : f32 ca = eI G 880 (fun _ => 0) := (hf32 _ nx_ca).trans h30_ca
  have h32_fn : f32 fn = eI G 10 (fun _ => 0) := (hf32 _ nx_fn).trans h30_fn
  have h32_mu : f32 mu = eI G 10 (fun _ => 0) := (hf32 _ nx_mu).trans hv_mu
  have h32_x : f32 x = eO 8 fs31 := by rw [ef32]; exact va_up_eq _ _ _
  refine lv_aload_n hx hb dX8_init_165 rfl (lv_at hl 0 rfl) ?_
  refine lv_sipush (v := nI 1440) hx hb dX8_init_166 (by decide) ?_
  refine k_newJ hx hb hts u_177 hw 1440 (by decide) (by decide) (by decide) dX8_init_169 (fun ww H hq_ww hw => ?_)
  obtain ⟨L33, eL33⟩ : ∃ z : List Nat, z = L30 ++ [ww] := ⟨_, rfl⟩
  obtain ⟨f33, ef33⟩ : ∃ z : Nat → va_E, z = va_up f32 ww (eJ G 1440 (fun _ => 0)) := ⟨_, rfl⟩
  rw [← eL33, ← ef33] at hw
  have hm33 : ∀ q ∈ L30, q ∈ L33 := fun q h => by rw [eL33]; exact List.mem_append_left _ h
  have hf33 : ∀ q ∈ L30, True → f33 q = f32 q := fun q h hne => by rw [ef33]; exact va_up_ne _ _ (fun h9 => hq_ww (by rw [← h9]; exact h))
  have hsub33 : ∀ q ∈ L, q ∈ L33 := fun q h => hm33 q (hsub30 q h)
  have hof33 : ∀ q ∈ L, q ≠ x → f33 q = f q := fun q h hne => (hf33 q (hsub30 q h) trivial).trans (hof32 q h hne)
  have m33_x : x ∈ L33 := hm33 _ m30_x
  have h33_x : f33 x = eO 8 fs31 := (hf33 _ m30_x trivial).trans h32_x
  have m33_ca : ca ∈ L33 := hm33 _ m30_ca
  have h33_ca : f33 ca = eI G 880 (fun _ => 0) := (hf33 _ m30_ca trivial).trans h32_ca
  have m33_fn : fn ∈ L33 := hm33 _ m30_fn
  have h33_fn : f33 fn = eI G 10 (fun _ => 0) := (hf33 _ m30_fn trivial).trans h32_fn
  have m33_mu : mu ∈ L33 := hm33 _ mq_mu
  have h33_mu : f33 mu = eI G 10 (fun _ => 0) := (hf33 _ mq_mu trivial).trans h32_mu
  have mq_ww : ww ∈ L33 := by rw [eL33]; exact List.mem_append_right _ (List.mem_singleton.mpr rfl)
  have hv_ww : f33 ww = eJ G 1440 (fun _ => 0) := by rw [ef33]; exact va_up_eq _ _ _
  have nx_ww : ww ≠ x := fun h9 => hq_ww (by rw [h9]; exact m30_x)
  have nn_x_ww : x ≠ ww := fun h9 => hq_ww (by rw [← h9]; exact m30_x)
  have nn_ca_ww : ca ≠ ww := fun h9 => hq_ww (by rw [← h9]; exact m30_ca)
  have nn_fn_ww : fn ≠ ww := fun h9 => hq_ww (by rw [← h9]; exact m30_fn)
  have nn_mu_ww : mu ≠ ww := fun h9 => hq_ww (by rw [← h9]; exact mq_mu)
  have nl_ww : ww ∉ L := fun h9 => hq_ww (hsub30 _ h9)
  refine k_putF (own := RX8) (C := RX8) (T := TX8) (N := 18) (ci := 8) (ty := (.array .long)) (v := .ref ww) hx hb hts inX8_u tyX8 tyX8_ok nmX8 hown hw m33_x h33_x rfl 7 (by decide) u_27 rfl rfl hin (by decide +kernel) rfl rfl (by rw [hlen31]; decide) dX8_init_171 (fun H locs hw => ?_)
  obtain ⟨fs34, hz34⟩ : ∃ zz9, zz9 = fs31.set 7 (.ref ww) := ⟨_, rfl⟩
  rw [← hz34] at hw
  have hlen34 : fs34.length = 18 := by rw [hz34, List.length_set]; exact hlen31
  have g34_2 : fs34[2]? = some (.int (nI 0)) := by rw [hz34, List.getElem?_set_ne (by decide)]; exact g31_2
  have g34_3 : fs34[3]? = some (.int (nI 0)) := by rw [hz34, List.getElem?_set_ne (by decide)]; exact g31_3
  have g34_4 : fs34[4]? = some (.int (nI 0)) := by rw [hz34, List.getElem?_set_ne (by decide)]; exact g31_4
  have g34_0 : fs34[0]? = some (.ref pb) := by rw [hz34, List.getElem?_set_ne (by decide)]; exact g31_0
  have g34_1 : fs34[1]? = some (.ref ca) := by rw [hz34, List.getElem?_set_ne (by decide)]; exact g31_1
  have g34_5 : fs34[5]? = some (.ref fn) := by rw [hz34, List.getElem?_set_ne (by decide)]; exact g31_5
  have g34_6 : fs34[6]? = some (.ref mu) := by rw [hz34, List.getElem?_set_ne (by decide)]; exact g31_6
  have g34_7 : fs34[7]? = some (.ref ww) := by rw [hz34, List.getElem?_set_self (by rw [hlen31]; decide)]
  obtain ⟨f35, ef35⟩ : ∃ z9 : Nat → va_E, z9 = va_up f33 x (eO 8 fs34) := ⟨_, rfl⟩
  rw [← ef35] at hw
  have eL35 : L33 = L33 := rfl
  have hf35 : ∀ q : Nat, q ≠ x → f35 q = f33 q := fun q hne => by rw [ef35]; exact va_up_ne _ _ hne
  have hof35 : ∀ q ∈ L, q ≠ x → f35 q = f q := fun q h hne => (hf35 q hne).trans (hof33 q h hne)
  have h35_ca : f35 ca = eI G 880 (fun _ => 0) := (hf35 _ nx_ca).trans h33_ca
  have h35_fn : f35 fn = eI G 10 (fun _ => 0) := (hf35 _ nx_fn).trans h33_fn
  have h35_mu : f35 mu = eI G 10 (fun _ => 0) := (hf35 _ nx_mu).trans h33_mu
  have h35_ww : f35 ww = eJ G 1440 (fun _ => 0) := (hf35 _ nx_ww).trans hv_ww
  have h35_x : f35 x = eO 8 fs34 := by rw [ef35]; exact va_up_eq _ _ _
  refine lv_aload_n hx hb dX8_init_174 rfl (lv_at hl 0 rfl) ?_
  refine lv_bipush (v := nI 60) hx hb dX8_init_175 (by decide) ?_
  refine k_newI hx hb hts u_200 hw 60 (by decide) (by decide) (by decide) dX8_init_177 (fun dd H hq_dd hw => ?_)
  obtain ⟨L36, eL36⟩ : ∃ z : List Nat, z = L33 ++ [dd] := ⟨_, rfl⟩
  obtain ⟨f36, ef36⟩ : ∃ z : Nat → va_E, z = va_up f35 dd (eI G 60 (fun _ => 0)) := ⟨_, rfl⟩
  rw [← eL36, ← ef36] at hw
  have hm36 : ∀ q ∈ L33, q ∈ L36 := fun q h => by rw [eL36]; exact List.mem_append_left _ h
  have hf36 : ∀ q ∈ L33, True → f36 q = f35 q := fun q h hne => by rw [ef36]; exact va_up_ne _ _ (fun h9 => hq_dd (by rw [← h9]; exact h))
  have hsub36 : ∀ q ∈ L, q ∈ L36 := fun q h => hm36 q (hsub33 q h)
  have hof36 : ∀ q ∈ L, q ≠ x → f36 q = f q := fun q h hne => (hf36 q (hsub33 q h) trivial).trans (hof35 q h hne)
  have m36_x : x ∈ L36 := hm36 _ m33_x
  have h36_x : f36 x = eO 8 fs34 := (hf36 _ m33_x trivial).trans h35_x
  have m36_ca : ca ∈ L36 := hm36 _ m33_ca
  have h36_ca : f36 ca = eI G 880 (fun _ => 0) := (hf36 _ m33_ca trivial).trans h35_ca
  have m36_fn : fn ∈ L36 := hm36 _ m33_fn
  have h36_fn : f36 fn = eI G 10 (fun _ => 0) := (hf36 _ m33_fn trivial).trans h35_fn
  have m36_mu : mu ∈ L36 := hm36 _ m33_mu
  have h36_mu : f36 mu = eI G 10 (fun _ => 0) := (hf36 _ m33_mu trivial).trans h35_mu
  have m36_ww : ww ∈ L36 := hm36 _ mq_ww
  have h36_ww : f36 ww = eJ G 1440 (fun _ => 0) := (hf36 _ mq_ww trivial).trans h35_ww
  have mq_dd : dd ∈ L36 := by rw [eL36]; exact List.mem_append_right _ (List.mem_singleton.mpr rfl)
  have hv_dd : f36 dd = eI G 60 (fun _ => 0) := by rw [ef36]; exact va_up_eq _ _ _
  have nx_dd : dd ≠ x := fun h9 => hq_dd (by rw [h9]; exact m33_x)
  have nn_x_dd : x ≠ dd := fun h9 => hq_dd (by rw [← h9]; exact m33_x)
  have nn_ca_dd : ca ≠ dd := fun h9 => hq_dd (by rw [← h9]; exact m33_ca)
  have nn_fn_dd : fn ≠ dd := fun h9 => hq_dd (by rw [← h9]; exact m33_fn)
  have nn_mu_dd : mu ≠ dd := fun h9 => hq_dd (by rw [← h9]; exact m33_mu)
  have nn_ww_dd : ww ≠ dd := fun h9 => hq_dd (by rw [← h9]; exact mq_ww)
  have nl_dd : dd ∉ L := fun h9 => hq_dd (hsub33 _ h9)
  refine k_putF (own := RX8) (C := RX8) (T := TX8) (N := 18) (ci := 8) (ty := (.array .int)) (v := .ref dd) hx hb hts inX8_u tyX8 tyX8_ok nmX8 hown hw m36_x h36_x rfl 8 (by decide) u_28 rfl rfl hin (by decide +kernel) rfl rfl (by rw [hlen34]; decide) dX8_init_179 (fun H locs hw => ?_)
  obtain ⟨fs37, hz37⟩ : ∃ zz9, zz9 = fs34.set 8 (.ref dd) := ⟨_, rfl⟩
  rw [← hz37] at hw
  have hlen37 : fs37.length = 18 := by rw [hz37, List.length_set]; exact hlen34
  have g37_2 : fs37[2]? = some (.int (nI 0)) := by rw [hz37, List.getElem?_set_ne (by decide)]; exact g34_2
  have g37_3 : fs37[3]? = some (.int (nI 0)) := by rw [hz37, List.getElem?_set_ne (by decide)]; exact g34_3
  have g37_4 : fs37[4]? = some (.int (nI 0)) := by rw [hz37, List.getElem?_set_ne (by decide)]; exact g34_4
  have g37_0 : fs37[0]? = some (.ref pb) := by rw [hz37, List.getElem?_set_ne (by decide)]; exact g34_0
  have g37_1 : fs37[1]? = some (.ref ca) := by rw [hz37, List.getElem?_set_ne (by decide)]; exact g34_1
  have g37_5 : fs37[5]? = some (.ref fn) := by rw [hz37, List.getElem?_set_ne (by decide)]; exact g34_5
  have g37_6 : fs37[6]? = some (.ref mu) := by rw [hz37, List.getElem?_set_ne (by decide)]; exact g34_6
  have g37_7 : fs37[7]? = some (.ref ww) := by rw [hz37, List.getElem?_set_ne (by decide)]; exact g34_7
  have g37_8 : fs37[8]? = some (.ref dd) := by rw [hz37, List.getElem?_set_self (by rw [hlen34]; decide)]
  obtain ⟨f38, ef38⟩ : ∃ z9 : Nat → va_E, z9 = va_up f36 x (eO 8 fs37) := ⟨_, rfl⟩
  rw [← ef38] at hw
  have eL38 : L36 = L36 := rfl
  have hf38 : ∀ q : Nat, q ≠ x → f38 q = f36 q := fun q hne => by rw [ef38]; exact va_up_ne _ _ hne
  have hof38 : ∀ q ∈ L, q ≠ x → f38 q = f q := fun q h hne => (hf38 q hne).trans (hof36 q h hne)
  have h38_ca : f38 ca = eI G 880 (fun _ => 0) := (hf38 _ nx_ca).trans h36_ca
  have h38_fn : f38 fn = eI G 10 (fun _ => 0) := (hf38 _ nx_fn).trans h36_fn
  have h38_mu : f38 mu = eI G 10 (fun _ => 0) := (hf38 _ nx_mu).trans h36_mu
  have h38_ww : f38 ww = eJ G 1440 (fun _ => 0) := (hf38 _ nx_ww).trans h36_ww
  have h38_dd : f38 dd = eI G 60 (fun _ => 0) := (hf38 _ nx_dd).trans hv_dd
  have h38_x : f38 x = eO 8 fs37 := by rw [ef38]; exact va_up_eq _ _ _
  refine lv_aload_n hx hb dX8_init_182 rfl (lv_at hl 0 rfl) ?_
  refine lv_bipush (v := nI 10) hx hb dX8_init_183 (by decide) ?_
  refine k_newI hx hb hts u_200 hw 10 (by decide) (by decide) (by decide) dX8_init_185 (fun fo H hq_fo hw => ?_)
  obtain ⟨L39, eL39⟩ : ∃ z : List Nat, z = L36 ++ [fo] := ⟨_, rfl⟩
  obtain ⟨f39, ef39⟩ : ∃ z : Nat → va_E, z = va_up f38 fo (eI G 10 (fun _ => 0)) := ⟨_, rfl⟩
  rw [← eL39, ← ef39] at hw
  have hm39 : ∀ q ∈ L36, q ∈ L39 := fun q h => by rw [eL39]; exact List.mem_append_left _ h
  have hf39 : ∀ q ∈ L36, True → f39 q = f38 q := fun q h hne => by rw [ef39]; exact va_up_ne _ _ (fun h9 => hq_fo (by rw [← h9]; exact h))
  have hsub39 : ∀ q ∈ L, q ∈ L39 := fun q h => hm39 q (hsub36 q h)
  have hof39 : ∀ q ∈ L, q ≠ x → f39 q = f q := fun q h hne => (hf39 q (hsub36 q h) trivial).trans (hof38 q h hne)
  have m39_x : x ∈ L39 := hm39 _ m36_x
  have h39_x : f39 x = eO 8 fs37 := (hf39 _ m36_x trivial).trans h38_x
  have m39_ca : ca ∈ L39 := hm39 _ m36_ca
  have h39_ca : f39 ca = eI G 880 (fun _ => 0) := (hf39 _ m36_ca trivial).trans h38_ca
  have m39_fn : fn ∈ L39 := hm39 _ m36_fn
  have h39_fn : f39 fn = eI G 10 (fun _ => 0) := (hf39 _ m36_fn trivial).trans h38_fn
  have m39_mu : mu ∈ L39 := hm39 _ m36_mu
  have h39_mu : f39 mu = eI G 10 (fun _ => 0) := (hf39 _ m36_mu trivial).trans h38_mu
  have m39_ww : ww ∈ L39 := hm39 _ m36_ww
  have h39_ww : f39 ww = eJ G 1440 (fun _ => 0) := (hf39 _ m36_ww trivial).trans h38_ww
  have m39_dd : dd ∈ L39 := hm39 _ mq_dd
  have h39_dd : f39 dd = eI G 60 (fun _ => 0) := (hf39 _ mq_dd trivial).trans h38_dd
  have mq_fo : fo ∈ L39 := by rw [eL39]; exact List.mem_append_right _ (List.mem_singleton.mpr rfl)
  have hv_fo : f39 fo = eI G 10 (fun _ => 0) := by rw [ef39]; exact va_up_eq _ _ _
  have nx_fo : fo ≠ x := fun h9 => hq_fo (by rw [h9]; exact m36_x)
  have nn_x_fo : x ≠ fo := fun h9 => hq_fo (by rw [← h9]; exact m36_x)
  have nn_ca_fo : ca ≠ fo := fun h9 => hq_fo (by rw [← h9]; exact m36_ca)
  have nn_fn_fo : fn ≠ fo := fun h9 => hq_fo (by rw [← h9]; exact m36_fn)
  have nn_mu_fo : mu ≠ fo := fun h9 => hq_fo (by rw [← h9]; exact m36_mu)
  have nn_ww_fo : ww ≠ fo := fun h9 => hq_fo (by rw [← h9]; exact m36_ww)
  have nn_dd_fo : dd ≠ fo := fun h9 => hq_fo (by rw [← h9]; exact mq_dd)
  have nl_fo : fo ∉ L := fun h9 => hq_fo (hsub36 _ h9)
  refine k_putF (own := RX8) (C := RX8) (T := TX8) (N := 18) (ci := 8) (ty := (.array .int)) (v := .ref fo) hx hb hts inX8_u tyX8 tyX8_ok nmX8 hown hw m39_x h39_x rfl 12 (by decide) u_269 rfl rfl hin (by decide +kernel) rfl rfl (by rw [hlen37]; decide) dX8_init_187 (fun H locs hw => ?_)
  obtain ⟨fs40, hz40⟩ : ∃ zz9, zz9 = fs37.set 12 (.ref fo) := ⟨_, rfl⟩
  rw [← hz40] at hw
  have hlen40 : fs40.length = 18 := by rw [hz40, List.length_set]; exact hlen37
  have g40_2 : fs40[2]? = some (.int (nI 0)) := by rw [hz40, List.getElem?_set_ne (by decide)]; exact g37_2
  have g40_3 : fs40[3]? = some (.int (nI 0)) := by rw [hz40, List.getElem?_set_ne (by decide)]; exact g37_3
  have g40_4 : fs40[4]? = some (.int (nI 0)) := by rw [hz40, List.getElem?_set_ne (by decide)]; exact g37_4
  have g40_0 : fs40[0]? = some (.ref pb) := by rw [hz40, List.getElem?_set_ne (by decide)]; exact g37_0
  have g40_1 : fs40[1]? = some (.ref ca) := by rw [hz40, List.getElem?_set_ne (by decide)]; exact g37_1
  have g40_5 : fs40[5]? = some (.ref fn) := by rw [hz40, List.getElem?_set_ne (by decide)]; exact g37_5
  have g40_6 : fs40[6]? = some (.ref mu) := by rw [hz40, List.getElem?_set_ne (by decide)]; exact g37_6
  have g40_7 : fs40[7]? = some (.ref ww) := by rw [hz40, List.getElem?_set_ne (by decide)]; exact g37_7
  have g40_8 : fs40[8]? = some (.ref dd) := by rw [hz40, List.getElem?_set_ne (by decide)]; exact g37_8
  have g40_12 : fs40[12]? = some (.ref fo) := by rw [hz40, List.getElem?_set_self (by rw [hlen37]; decide)]
  obtain ⟨f41, ef41⟩ : ∃ z9 : Nat → va_E, z9 = va_up f39 x (eO 8 fs40) := ⟨_, rfl⟩
  rw [← ef41] at hw
  have eL41 : L39 = L39 := rfl
  have hf41 : ∀ q : Nat, q ≠ x → f41 q = f39 q := fun q hne => by rw [ef41]; exact va_up_ne _ _ hne
  have hof41 : ∀ q ∈ L, q ≠ x → f41 q = f q := fun q h hne => (hf41 q hne).trans (hof39 q h hne)
  have h41_ca : f41 ca = eI G 880 (fun _ => 0) := (hf41 _ nx_ca).trans h39_ca
  have h41_fn : f41 fn = eI G 10 (fun _ => 0) := (hf41 _ nx_fn).trans h39_fn
  have h41_mu : f41 mu = eI G 10 (fun _ => 0) := (hf41 _ nx_mu).trans h39_mu
  have h41_ww : f41 ww = eJ G 1440 (fun _ => 0) := (hf41 _ nx_ww).trans h39_ww
  have h41_dd : f41 dd = eI G 60 (fun _ => 0) := (hf41 _ nx_dd).trans h39_dd
  have h41_fo : f41 fo = eI G 10 (fun _ => 0) := (hf41 _ nx_fo).trans hv_fo
  have h41_x : f41 x = eO 8 fs40 := by rw [ef41]; exact va_up_eq _ _ _
  refine lv_aload_n hx hb dX8_init_190 rfl (lv_at hl 0 rfl) ?_
  refine lv_bipush (v := nI 12) hx hb dX8_init_191 (by decide) ?_
  refine k_newZ hx hb hts u_270 hw 12 (by decide) (by decide) (by decide) dX8_init_193 (fun ta H hq_ta hw => ?_)
  obtain ⟨L42, eL42⟩ : ∃ z : List Nat, z = L39 ++ [ta] := ⟨_, rfl⟩
  obtain ⟨f42, ef42⟩ : ∃ z : Nat → va_E, z = va_up f41 ta (eZ G 12 (fun _ => 0)) := ⟨_, rfl⟩
  rw [← eL42, ← ef42] at hw
  have hm42 : ∀ q ∈ L39, q ∈ L42 := fun q h => by rw [eL42]; exact List.mem_append_left _ h
  have hf42 : ∀ q ∈ L39, True → f42 q = f41 q := fun q h hne => by rw [ef42]; exact va_up_ne _ _ (fun h9 => hq_ta (by rw [← h9]; exact h))
  have hsub42 : ∀ q ∈ L, q ∈ L42 := fun q h => hm42 q (hsub39 q h)
  have hof42 : ∀ q ∈ L, q ≠ x → f42 q = f q := fun q h hne => (hf42 q (hsub39 q h) trivial).trans (hof41 q h hne)
  have m42_x : x ∈ L42 := hm42 _ m39_x
  have h42_x : f42 x = eO 8 fs40 := (hf42 _ m39_x trivial).trans h41_x
  have m42_ca : ca ∈ L42 := hm42 _ m39_ca
  have h42_ca : f42 ca = eI G 880 (fun _ => 0) := (hf42 _ m39_ca trivial).trans h41_ca
  have m42_fn : fn ∈ L42 := hm42 _ m39_fn
  have h42_fn : f42 fn = eI G 10 (fun _ => 0) := (hf42 _ m39_fn trivial).trans h41_fn
  have m42_mu : mu ∈ L42 := hm42 _ m39_mu
  have h42_mu : f42 mu = eI G 10 (fun _ => 0) := (hf42 _ m39_mu trivial).trans h41_mu
  have m42_ww : ww ∈ L42 := hm42 _ m39_ww
  have h42_ww : f42 ww = eJ G 1440 (fun _ => 0) := (hf42 _ m39_ww trivial).trans h41_ww
  have m42_dd : dd ∈ L42 := hm42 _ m39_dd
  have h42_dd : f42 dd = eI G 60 (fun _ => 0) := (hf42 _ m39_dd trivial).trans h41_dd
  have m42_fo : fo ∈ L42 := hm42 _ mq_fo
  have h42_fo : f42 fo = eI G 10 (fun _ => 0) := (hf42 _ mq_fo trivial).trans h41_fo
  have mq_ta : ta ∈ L42 := by rw [eL42]; exact List.mem_append_right _ (List.mem_singleton.mpr rfl)
  have hv_ta : f42 ta = eZ G 12 (fun _ => 0) := by rw [ef42]; exact va_up_eq _ _ _
  have nx_ta : ta ≠ x := fun h9 => hq_ta (by rw [h9]; exact m39_x)
  have nn_x_ta : x ≠ ta := fun h9 => hq_ta (by rw [← h9]; exact m39_x)
  have nn_ca_ta : ca ≠ ta := fun h9 => hq_ta (by rw [← h9]; exact m39_ca)
  have nn_fn_ta : fn ≠ ta := fun h9 => hq_ta (by rw [← h9]; exact m39_fn)
  have nn_mu_ta : mu ≠ ta := fun h9 => hq_ta (by rw [← h9]; exact m39_mu)
  have nn_ww_ta : ww ≠ ta := fun h9 => hq_ta (by rw [← h9]; exact m39_ww)
  have nn_dd_ta : dd ≠ ta := fun h9 => hq_ta (by rw [← h9]; exact m39_dd)
  have nn_fo_ta : fo ≠ ta := fun h9 => hq_ta (by rw [← h9]; exact mq_fo)
  have nl_ta : ta ∉ L := fun h9 => hq_ta (hsub39 _ h9)
  refine k_putF (own := RX8) (C := RX8) (T := TX8) (N := 18) (ci := 8) (ty := (.array .boolean)) (v := .ref ta) hx hb hts inX8_u tyX8 tyX8_ok nmX8 hown hw m42_x h42_x rfl 13 (by decide) u_271 rfl rfl hin (by decide +kernel) rfl rfl (by rw [hlen40]; decide) dX8_init_195 (fun H locs hw => ?_)
  obtain ⟨fs43, hz43⟩ : ∃ zz9, zz9 = fs40.set 13 (.ref ta) := ⟨_, rfl⟩
  rw [← hz43] at hw
  have hlen43 : fs43.length = 18 := by rw [hz43, List.length_set]; exact hlen40
  have g43_2 : fs43[2]? = some (.int (nI 0)) := by rw [hz43, List.getElem?_set_ne (by decide)]; exact g40_2
  have g43_3 : fs43[3]? = some (.int (nI 0)) := by rw [hz43, List.getElem?_set_ne (by decide)]; exact g40_3
  have g43_4 : fs43[4]? = some (.int (nI 0)) := by rw [hz43, List.getElem?_set_ne (by decide)]; exact g40_4
  have g43_0 : fs43[0]? = some (.ref pb) := by rw [hz43, List.getElem?_set_ne (by decide)]; exact g40_0
  have g43_1 : fs43[1]? = some (.ref ca) := by rw [hz43, List.getElem?_set_ne (by decide)]; exact g40_1
  have g43_5 : fs43[5]? = some (.ref fn) := by rw [hz43, List.getElem?_set_ne (by decide)]; exact g40_5
  have g43_6 : fs43[6]? = some (.ref mu) := by rw [hz43, List.getElem?_set_ne (by decide)]; exact g40_6
  have g43_7 : fs43[7]? = some (.ref ww) := by rw [hz43, List.getElem?_set_ne (by decide)]; exact g40_7
  have g43_8 : fs43[8]? = some (.ref dd) := by rw [hz43, List.getElem?_set_ne (by decide)]; exact g40_8
  have g43_12 : fs43[12]? = some (.ref fo) := by rw [hz43, List.getElem?_set_ne (by decide)]; exact g40_12
  have g43_13 : fs43[13]? = some (.ref ta) := by rw [hz43, List.getElem?_set_self (by rw [hlen40]; decide)]
  obtain ⟨f44, ef44⟩ : ∃ z9 : Nat → va_E, z9 = va_up f42 x (eO 8 fs43) := ⟨_, rfl⟩
  rw [← ef44] at hw
  have eL44 : L42 = L42 := rfl
  have hf44 : ∀ q : Nat, q ≠ x → f44 q = f42 q := fun q hne => by rw [ef44]; exact va_up_ne _ _ hne
  have hof44 : ∀ q ∈ L, q ≠ x → f44 q = f q := fun q h hne => (hf44 q hne).trans (hof42 q h hne)
  have h44_ca : f44 ca = eI G 880 (fun _ => 0) := (hf44 _ nx_ca).trans h42_ca
  have h44_fn : f44 fn = eI G 10 (fun _ => 0) := (hf44 _ nx_fn).trans h42_fn
  have h44_mu : f44 mu = eI G 10 (fun _ => 0) := (hf44 _ nx_mu).trans h42_mu
  have h44_ww : f44 ww = eJ G 1440 (fun _ => 0) := (hf44 _ nx_ww).trans h42_ww
  have h44_dd : f44 dd = eI G 60 (fun _ => 0) := (hf44 _ nx_dd).trans h42_dd
  have h44_fo : f44 fo = eI G 10 (fun _ => 0) := (hf44 _ nx_fo).trans h42_fo
  have h44_ta : f44 ta = eZ G 12 (fun _ => 0) := (hf44 _ nx_ta).trans hv_ta
  have h44_x : f44 x = eO 8 fs43 := by rw [ef44]; exact va_up_eq _ _ _
  refine lv_aload_n hx hb dX8_init_198 rfl (lv_at hl 0 rfl) ?_
  refine lv_bipush (v := nI 12) hx hb dX8_init_199 (by decide) ?_
  refine k_newI hx hb hts u_200 hw 12 (by decide) (by decide) (by decide) dX8_init_201 (fun pd H hq_pd hw => ?_)
  obtain ⟨L45, eL45⟩ : ∃ z : List Nat, z = L42 ++ [pd] := ⟨_, rfl⟩
  obtain ⟨f45, ef45⟩ : ∃ z : Nat → va_E, z = va_up f44 pd (eI G 12 (fun _ => 0)) := ⟨_, rfl⟩
  rw [← eL45, ← ef45] at hw
  have hm45 : ∀ q ∈ L42, q ∈ L45 := fun q h => by rw [eL45]; exact List.mem_append_left _ h
  have hf45 : ∀ q ∈ L42, True → f45 q = f44 q := fun q h hne => by rw [ef45]; exact va_up_ne _ _ (fun h9 => hq_pd (by rw [← h9]; exact h))
  have hsub45 : ∀ q ∈ L, q ∈ L45 := fun q h => hm45 q (hsub42 q h)
  have hof45 : ∀ q ∈ L, q ≠ x → f45 q = f q := fun q h hne => (hf45 q (hsub42 q h) trivial).trans (hof44 q h hne)
  have m45_x : x ∈ L45 := hm45 _ m42_x
  have h45_x : f45 x = eO 8 fs43 := (hf45 _ m42_x trivial).trans h44_x
  have m45_ca : ca ∈ L45 := hm45 _ m42_ca
  have h45_ca : f45 ca = eI G 880 (fun _ => 0) := (hf45 _ m42_ca trivial).trans h44_ca
  have m45_fn : fn ∈ L45 := hm45 _ m42_fn
  have h45_fn : f45 fn = eI G 10 (fun _ => 0) := (hf45 _ m42_fn trivial).trans h44_fn
  have m45_mu : mu ∈ L45 := hm45 _ m42_mu
  have h45_mu : f45 mu = eI G 10 (fun _ => 0) := (hf45 _ m42_mu trivial).trans h44_mu
  have m45_ww : ww ∈ L45 := hm45 _ m42_ww
  have h45_ww : f45 ww = eJ G 1440 (fun _ => 0) := (hf45 _ m42_ww trivial).trans h44_ww
  have m45_dd : dd ∈ L45 := hm45 _ m42_dd
  have h45_dd : f45 dd = eI G 60 (fun _ => 0) := (hf45 _ m42_dd trivial).trans h44_dd
  have m45_fo : fo ∈ L45 := hm45 _ m42_fo
  have h45_fo : f45 fo = eI G 10 (fun _ => 0) := (hf45 _ m42_fo trivial).trans h44_fo
  have m45_ta : ta ∈ L45 := hm45 _ mq_ta
  have h45_ta : f45 ta = eZ G 12 (fun _ => 0) := (hf45 _ mq_ta trivial).trans h44_ta
  have mq_pd : pd ∈ L45 := by rw [eL45]; exact List.mem_append_right _ (List.mem_singleton.mpr rfl)
  have hv_pd : f45 pd = eI G 12 (fun _ => 0) := by rw [ef45]; exact va_up_eq _ _ _
  have nx_pd : pd ≠ x := fun h9 => hq_pd (by rw [h9]; exact m42_x)
  have nn_x_pd : x ≠ pd := fun h9 => hq_pd (by rw [← h9]; exact m42_x)
  have nn_ca_pd : ca ≠ pd := fun h9 => hq_pd (by rw [← h9]; exact m42_ca)
  have nn_fn_pd : fn ≠ pd := fun h9 => hq_pd (by rw [← h9]; exact m42_fn)
  have nn_mu_pd : mu ≠ pd := fun h9 => hq_pd (by rw [← h9]; exact m42_mu)
  have nn_ww_pd : ww ≠ pd := fun h9 => hq_pd (by rw [← h9]; exact m42_ww)
  have nn_dd_pd : dd ≠ pd := fun h9 => hq_pd (by rw [← h9]; exact m42_dd)
  have nn_fo_pd : fo ≠ pd := fun h9 => hq_pd (by rw [← h9]; exact m42_fo)
  have nn_ta_pd : ta ≠ pd := fun h9 => hq_pd (by rw [← h9]; exact mq_ta)
  have nl_pd : pd ∉ L := fun h9 => hq_pd (hsub42 _ h9)
  refine k_putF (own := RX8) (C := RX8) (T := TX8) (N := 18) (ci := 8) (ty := (.array .int)) (v := .ref pd) hx hb hts inX8_u tyX8 tyX8_ok nmX8 hown hw m45_x h45_x rfl 14 (by decide) u_272 rfl rfl hin (by decide +kernel) rfl rfl (by rw [hlen43]; decide) dX8_init_203 (fun H locs hw => ?_)
  obtain ⟨fs46, hz46⟩ : ∃ zz9, zz9 = fs43.set 14 (.ref pd) := ⟨_, rfl⟩
  rw [← hz46] at hw
  have hlen46 : fs46.length = 18 := by rw [hz46, List.length_set]; exact hlen43
  have g46_2 : fs46[2]? = some (.int (nI 0)) := by rw [hz46, List.getElem?_set_ne (by decide)]; exact g43_2
  have g46_3 : fs46[3]? = some (.int (nI 0)) := by rw [hz46, List.getElem?_set_ne (by decide)]; exact g43_3
  have g46_4 : fs46[4]? = some (.int (nI 0)) := by rw [hz46, List.getElem?_set_ne (by decide)]; exact g43_4
  have g46_0 : fs46[0]? = some (.ref pb) := by rw [hz46, List.getElem?_set_ne (by decide)]; exact g43_0
  have g46_1 : fs46[1]? = some (.ref ca) := by rw [hz46, List.getElem?_set_ne (by decide)]; exact g43_1
  have g46_5 : fs46[5]? = some (.ref fn) := by rw [hz46, List.getElem?_set_ne (by decide)]; exact g43_5
  have g46_6 : fs46[6]? = some (.ref mu) := by rw [hz46, List.getElem?_set_ne (by decide)]; exact g43_6
  have g46_7 : fs46[7]? = some (.ref ww) := by rw [hz46, List.getElem?_set_ne (by decide)]; exact g43_7
  have g46_8 : fs46[8]? = some (.ref dd) := by rw [hz46, List.getElem?_set_ne (by decide)]; exact g43_8
  have g46_12 : fs46[12]? = some (.ref fo) := by rw [hz46, List.getElem?_set_ne (by decide)]; exact g43_12
  have g46_13 : fs46[13]? = some (.ref ta) := by rw [hz46, List.getElem?_set_ne (by decide)]; exact g43_13
  have g46_14 : fs46[14]? = some (.ref pd) := by rw [hz46, List.getElem?_set_self (by rw [hlen43]; decide)]
  obtain ⟨f47, ef47⟩ : ∃ z9 : Nat → va_E, z9 = va_up f45 x (eO 8 fs46) := ⟨_, rfl⟩
  rw [← ef47] at hw
  have eL47 : L45 = L45 := rfl
  have hf47 : ∀ q : Nat, q ≠ x → f47 q = f45 q := fun q hne => by rw [ef47]; exact va_up_ne _ _ hne
  have hof47 : ∀ q ∈ L, q ≠ x → f47 q = f q := fun q h hne => (hf47 q hne).trans (hof45 q h hne)
  have h47_ca : f47 ca = eI G 880 (fun _ => 0) := (hf47 _ nx_ca).trans h45_ca
  have h47_fn : f47 fn = eI G 10 (fun _ => 0) := (hf47 _ nx_fn).trans h45_fn
  have h47_mu : f47 mu = eI G 10 (fun _ => 0) := (hf47 _ nx_mu).trans h45_mu
  have h47_ww : f47 ww = eJ G 1440 (fun _ => 0) := (hf47 _ nx_ww).trans h45_ww
  have h47_dd : f47 dd = eI G 60 (fun _ => 0) := (hf47 _ nx_dd).trans h45_dd
  have h47_fo : f47 fo = eI G 10 (fun _ => 0) := (hf47 _ nx_fo).trans h45_fo
  have h47_ta : f47 ta = eZ G 12 (fun _ => 0) := (hf47 _ nx_ta).trans h45_ta
  have h47_pd : f47 pd = eI G 12 (fun _ => 0) := (hf47 _ nx_pd).trans hv_pd
  have h47_x : f47 x = eO 8 fs46 := by rw [ef47]; exact va_up_eq _ _ _
  refine lv_aload_n hx hb dX8_init_206 rfl (lv_at hl 0 rfl) ?_
  refine lv_bipush (v := nI 12) hx hb dX8_init_207 (by decide) ?_
  refine k_newI hx hb hts u_200 hw 12 (by decide) (by decide) (by decide) dX8_init_209 (fun ra H hq_ra hw => ?_)
  obtain ⟨L48, eL48⟩ : ∃ z : List Nat, z = L45 ++ [ra] := ⟨_, rfl⟩
  obtain ⟨f48, ef48⟩ : ∃ z : Nat → va_E, z = va_up f47 ra (eI G 12 (fun _ => 0)) := ⟨_, rfl⟩
  rw [← eL48, ← ef48] at hw
  have hm48 : ∀ q ∈ L45, q ∈ L48 := fun q h => by rw [eL48]; exact List.mem_append_left _ h
  have hf48 : ∀ q ∈ L45, True → f48 q = f47 q := fun q h hne => by rw [ef48]; exact va_up_ne _ _ (fun h9 => hq_ra (by rw [← h9]; exact h))
  have hsub48 : ∀ q ∈ L, q ∈ L48 := fun q h => hm48 q (hsub45 q h)
  have hof48 : ∀ q ∈ L, q ≠ x → f48 q = f q := fun q h hne => (hf48 q (hsub45 q h) trivial).trans (hof47 q h hne)
  have m48_x : x ∈ L48 := hm48 _ m45_x
  have h48_x : f48 x = eO 8 fs46 := (hf48 _ m45_x trivial).trans h47_x
  have m48_ca : ca ∈ L48 := hm48 _ m45_ca
  have h48_ca : f48 ca = eI G 880 (fun _ => 0) := (hf48 _ m45_ca trivial).trans h47_ca
  have m48_fn : fn ∈ L48 := hm48 _ m45_fn
  have h48_fn : f48 fn = eI G 10 (fun _ => 0) := (hf48 _ m45_fn trivial).trans h47_fn
  have m48_mu : mu ∈ L48 := hm48 _ m45_mu
  have h48_mu : f48 mu = eI G 10 (fun _ => 0) := (hf48 _ m45_mu trivial).trans h47_mu
  have m48_ww : ww ∈ L48 := hm48 _ m45_ww
  have h48_ww : f48 ww = eJ G 1440 (fun _ => 0) := (hf48 _ m45_ww trivial).trans h47_ww
  have m48_dd : dd ∈ L48 := hm48 _ m45_dd
  have h48_dd : f48 dd = eI G 60 (fun _ => 0) := (hf48 _ m45_dd trivial).trans h47_dd
  have m48_fo : fo ∈ L48 := hm48 _ m45_fo
  have h48_fo : f48 fo = eI G 10 (fun _ => 0) := (hf48 _ m45_fo trivial).trans h47_fo
  have m48_ta : ta ∈ L48 := hm48 _ m45_ta
  have h48_ta : f48 ta = eZ G 12 (fun _ => 0) := (hf48 _ m45_ta trivial).trans h47_ta
  have m48_pd : pd ∈ L48 := hm48 _ mq_pd
  have h48_pd : f48 pd = eI G 12 (fun _ => 0) := (hf48 _ mq_pd trivial).trans h47_pd
  have mq_ra : ra ∈ L48 := by rw [eL48]; exact List.mem_append_right _ (List.mem_singleton.mpr rfl)
  have hv_ra : f48 ra = eI G 12 (fun _ => 0) := by rw [ef48]; exact va_up_eq _ _ _
  have nx_ra : ra ≠ x := fun h9 => hq_ra (by rw [h9]; exact m45_x)
  have nn_x_ra : x ≠ ra := fun h9 => hq_ra (by rw [← h9]; exact m45_x)
  have nn_ca_ra : ca ≠ ra := fun h9 => hq_ra (by rw [← h9]; exact m45_ca)
  have nn_fn_ra : fn ≠ ra := fun h9 => hq_ra (by rw [← h9]; exact m45_fn)
  have nn_mu_ra : mu ≠ ra := fun h9 => hq_ra (by rw [← h9]; exact m45_mu)
  have nn_ww_ra : ww ≠ ra := fun h9 => hq_ra (by rw [← h9]; exact m45_ww)
  have nn_dd_ra : dd ≠ ra := fun h9 => hq_ra (by rw [← h9]; exact m45_dd)
  have nn_fo_ra : fo ≠ ra := fun h9 => hq_ra (by rw [← h9]; exact m45_fo)
  have nn_ta_ra : ta ≠ ra := fun h9 => hq_ra (by rw [← h9]; exact m45_ta)
  have nn_pd_ra : pd ≠ ra := fun h9 => hq_ra (by rw [← h9]; exact mq_pd)
  have nl_ra : ra ∉ L := fun h9 => hq_ra (hsub45 _ h9)
  refine k_putF (own := RX8) (C := RX8) (T := TX8) (N := 18) (ci := 8) (ty := (.array .int)) (v := .ref ra) hx hb hts inX8_u tyX8 tyX8_ok nmX8 hown hw m48_x h48_x rfl 16 (by decide) u_273 rfl rfl hin (by decide +kernel) rfl rfl (by rw [hlen46]; decide) dX8_init_211 (fun H locs hw => ?_)
  obtain ⟨fs49, hz49⟩ : ∃ zz9, zz9 = fs46.set 16 (.ref ra) := ⟨_, rfl⟩
  rw [← hz49] at hw
  have hlen49 : fs49.length = 18 := by rw [hz49, List.length_set]; exact hlen46
  have g49_2 : fs49[2]? = some (.int (nI 0)) := by rw [hz49, List.getElem?_set_ne (by decide)]; exact g46_2
  have g49_3 : fs49[3]? = some (.int (nI 0)) := by rw [hz49, List.getElem?_set_ne (by decide)]; exact g46_3
  have g49_4 : fs49[4]? = some (.int (nI 0)) := by rw [hz49, List.getElem?_set_ne (by decide)]; exact g46_4
  have g49_0 : fs49[0]? = some (.ref pb) := by rw [hz49, List.getElem?_set_ne (by decide)]; exact g46_0
  have g49_1 : fs49[1]? = some (.ref ca) := by rw [hz49, List.getElem?_set_ne (by decide)]; exact g46_1
  have g49_5 : fs49[5]? = some (.ref fn) := by rw [hz49, List.getElem?_set_ne (by decide)]; exact g46_5
  have g49_6 : fs49[6]? = some (.ref mu) := by rw [hz49, List.getElem?_set_ne (by decide)]; exact g46_6
  have g49_7 : fs49[7]? = some (.ref ww) := by rw [hz49, List.getElem?_set_ne (by decide)]; exact g46_7
  have g49_8 : fs49[8]? = some (.ref dd) := by rw [hz49, List.getElem?_set_ne (by decide)]; exact g46_8
  have g49_12 : fs49[12]? = some (.ref fo) := by rw [hz49, List.getElem?_set_ne (by decide)]; exact g46_12
  have g49_13 : fs49[13]? = some (.ref ta) := by rw [hz49, List.getElem?_set_ne (by decide)]; exact g46_13
  have g49_14 : fs49[14]? = some (.ref pd) := by rw [hz49, List.getElem?_set_ne (by decide)]; exact g46_14
  have g49_16 : fs49[16]? = some (.ref ra) := by rw [hz49, List.getElem?_set_self (by rw [hlen46]; decide)]
  obtain ⟨f50, ef50⟩ : ∃ z9 : Nat → va_E, z9 = va_up f48 x (eO 8 fs49) := ⟨_, rfl⟩
  rw [← ef50] at hw
  have eL50 : L48 = L48 := rfl
  have hf50 : ∀ q : Nat, q ≠ x → f50 q = f48 q := fun q hne => by rw [ef50]; exact va_up_ne _ _ hne
  have hof50 : ∀ q ∈ L, q ≠ x → f50 q = f q := fun q h hne => (hf50 q hne).trans (hof48 q h hne)
  have h50_ca : f50 ca = eI G 880 (fun _ => 0) := (hf50 _ nx_ca).trans h48_ca
  have h50_fn : f50 fn = eI G 10 (fun _ => 0) := (hf50 _ nx_fn).trans h48_fn
  have h50_mu : f50 mu = eI G 10 (fun _ => 0) := (hf50 _ nx_mu).trans h48_mu
  have h50_ww : f50 ww = eJ G 1440 (fun _ => 0) := (hf50 _ nx_ww).trans h48_ww
  have h50_dd : f50 dd = eI G 60 (fun _ => 0) := (hf50 _ nx_dd).trans h48_dd
  have h50_fo : f50 fo = eI G 10 (fun _ => 0) := (hf50 _ nx_fo).trans h48_fo
  have h50_ta : f50 ta = eZ G 12 (fun _ => 0) := (hf50 _ nx_ta).trans h48_ta
  have h50_pd : f50 pd = eI G 12 (fun _ => 0) := (hf50 _ nx_pd).trans h48_pd
  have h50_ra : f50 ra = eI G 12 (fun _ => 0) := (hf50 _ nx_ra).trans hv_ra
  have h50_x : f50 x = eO 8 fs49 := by rw [ef50]; exact va_up_eq _ _ _
  refine lv_aload_n hx hb dX8_init_214 rfl (lv_at hl 0 rfl) ?_
  refine lv_bipush (v := nI 12) hx hb dX8_init_215 (by decide) ?_
  refine k_newI hx hb hts u_200 hw 12 (by decide) (by decide) (by decide) dX8_init_217 (fun rb H hq_rb hw => ?_)
  obtain ⟨L51, eL51⟩ : ∃ z : List Nat, z = L48 ++ [rb] := ⟨_, rfl⟩
  obtain ⟨f51, ef51⟩ : ∃ z : Nat → va_E, z = va_up f50 rb (eI G 12 (fun _ => 0)) := ⟨_, rfl⟩
  rw [← eL51, ← ef51] at hw
  have hm51 : ∀ q ∈ L48, q ∈ L51 := fun q h => by rw [eL51]; exact List.mem_append_left _ h
  have hf51 : ∀ q ∈ L48, True → f51 q = f50 q := fun q h hne => by rw [ef51]; exact va_up_ne _ _ (fun h9 => hq_rb (by rw [← h9]; exact h))
  have hsub51 : ∀ q ∈ L, q ∈ L51 := fun q h => hm51 q (hsub48 q h)
  have hof51 : ∀ q ∈ L, q ≠ x → f51 q = f q := fun q h hne => (hf51 q (hsub48 q h) trivial).trans (hof50 q h hne)
  have m51_x : x ∈ L51 := hm51 _ m48_x
  have h51_x : f51 x = eO 8 fs49 := (hf51 _ m48_x trivial).trans h50_x
  have m51_ca : ca ∈ L51 := hm51 _ m48_ca
  have h51_ca : f51 ca = eI G 880 (fun _ => 0) := (hf51 _ m48_ca trivial).trans h50_ca
  have m51_fn : fn ∈ L51 := hm51 _ m48_fn
  have h51_fn : f51 fn = eI G 10 (fun _ => 0) := (hf51 _ m48_fn trivial).trans h50_fn
  have m51_mu : mu ∈ L51 := hm51 _ m48_mu
  have h51_mu : f51 mu = eI G 10 (fun _ => 0) := (hf51 _ m48_mu trivial).trans h50_mu
  have m51_ww : ww ∈ L51 := hm51 _ m48_ww
  have h51_ww : f51 ww = eJ G 1440 (fun _ => 0) := (hf51 _ m48_ww trivial).trans h50_ww
  have m51_dd : dd ∈ L51 := hm51 _ m48_dd
  have h51_dd : f51 dd = eI G 60 (fun _ => 0) := (hf51 _ m48_dd trivial).trans h50_dd
  have m51_fo : fo ∈ L51 := hm51 _ m48_fo
  have h51_fo : f51 fo = eI G 10 (fun _ => 0) := (hf51 _ m48_fo trivial).trans h50_fo
  have m51_ta : ta ∈ L51 := hm51 _ m48_ta
  have h51_ta : f51 ta = eZ G 12 (fun _ => 0) := (hf51 _ m48_ta trivial).trans h50_ta
  have m51_pd : pd ∈ L51 := hm51 _ m48_pd
  have h51_pd : f51 pd = eI G 12 (fun _ => 0) := (hf51 _ m48_pd trivial).trans h50_pd
  have m51_ra : ra ∈ L51 := hm51 _ mq_ra
  have h51_ra : f51 ra = eI G 12 (fun _ => 0) := (hf51 _ mq_ra trivial).trans h50_ra
  have mq_rb : rb ∈ L51 := by rw [eL51]; exact List.mem_append_right _ (List.mem_singleton.mpr rfl)
  have hv_rb : f51 rb = eI G 12 (fun _ => 0) := by rw [ef51]; exact va_up_eq _ _ _
  have nx_rb : rb ≠ x := fun h9 => hq_rb (by rw [h9]; exact m48_x)
  have nn_x_rb : x ≠ rb := fun h9 => hq_rb (by rw [← h9]; exact m48_x)
  have nn_ca_rb : ca ≠ rb := fun h9 => hq_rb (by rw [← h9]; exact m48_ca)
  have nn_fn_rb : fn ≠ rb := fun h9 => hq_rb (by rw [← h9]; exact m48_fn)
  have nn_mu_rb : mu ≠ rb := fun h9 => hq_rb (by rw [← h9]; exact m48_mu)
  have nn_ww_rb : ww ≠ rb := fun h9 => hq_rb (by rw [← h9]; exact m48_ww)
  have nn_dd_rb : dd ≠ rb := fun h9 => hq_rb (by rw [← h9]; exact m48_dd)
  have nn_fo_rb : fo ≠ rb := fun h9 => hq_rb (by rw [← h9]; exact m48_fo)
  have nn_ta_rb : ta ≠ rb := fun h9 => hq_rb (by rw [← h9]; exact m48_ta)
  have nn_pd_rb : pd ≠ rb := fun h9 => hq_rb (by rw [← h9]; exact m48_pd)
  have nn_ra_rb : ra ≠ rb := fun h9 => hq_rb (by rw [← h9]; exact mq_ra)
  have nl_rb : rb ∉ L := fun h9 => hq_rb (hsub48 _ h9)
  refine k_putF (own := RX8) (C := RX8) (T := TX8) (N := 18) (ci := 8) (ty := (.array .int)) (v := .ref rb) hx hb hts inX8_u tyX8 tyX8_ok nmX8 hown hw m51_x h51_x rfl 17 (by decide) u_274 rfl rfl hin (by decide +kernel) rfl rfl (by rw [hlen49]; decide) dX8_init_219 (fun H locs hw => ?_)
  obtain ⟨fs52, hz52⟩ : ∃ zz9, zz9 = fs49.set 17 (.ref rb) := ⟨_, rfl⟩
  rw [← hz52] at hw
  have hlen52 : fs52.length = 18 := by rw [hz52, List.length_set]; exact hlen49
  have g52_2 : fs52[2]? = some (.int (nI 0)) := by rw [hz52, List.getElem?_set_ne (by decide)]; exact g49_2
  have g52_3 : fs52[3]? = some (.int (nI 0)) := by rw [hz52, List.getElem?_set_ne (by decide)]; exact g49_3
  have g52_4 : fs52[4]? = some (.int (nI 0)) := by rw [hz52, List.getElem?_set_ne (by decide)]; exact g49_4
  have g52_0 : fs52[0]? = some (.ref pb) := by rw [hz52, List.getElem?_set_ne (by decide)]; exact g49_0
  have g52_1 : fs52[1]? = some (.ref ca) := by rw [hz52, List.getElem?_set_ne (by decide)]; exact g49_1
  have g52_5 : fs52[5]? = some (.ref fn) := by rw [hz52, List.getElem?_set_ne (by decide)]; exact g49_5
  have g52_6 : fs52[6]? = some (.ref mu) := by rw [hz52, List.getElem?_set_ne (by decide)]; exact g49_6
  have g52_7 : fs52[7]? = some (.ref ww) := by rw [hz52, List.getElem?_set_ne (by decide)]; exact g49_7
  have g52_8 : fs52[8]? = some (.ref dd) := by rw [hz52, List.getElem?_set_ne (by decide)]; exact g49_8
  have g52_12 : fs52[12]? = some (.ref fo) := by rw [hz52, List.getElem?_set_ne (by decide)]; exact g49_12
  have g52_13 : fs52[13]? = some (.ref ta) := by rw [hz52, List.getElem?_set_ne (by decide)]; exact g49_13
  have g52_14 : fs52[14]? = some (.ref pd) := by rw [hz52, List.getElem?_set_ne (by decide)]; exact g49_14
  have g52_16 : fs52[16]? = some (.ref ra) := by rw [hz52, List.getElem?_set_ne (by decide)]; exact g49_16
  have g52_17 : fs52[17]? = some (.ref rb) := by rw [hz52, List.getElem?_set_self (by rw [hlen49]; decide)]
  obtain ⟨f53, ef53⟩ : ∃ z9 : Nat → va_E, z9 = va_up f51 x (eO 8 fs52) := ⟨_, rfl⟩
  rw [← ef53] at hw
  have eL53 : L51 = L51 := rfl
  have hf53 : ∀ q : Nat, q ≠ x → f53 q = f51 q := fun q hne => by rw [ef53]; exact va_up_ne _ _ hne
  have hof53 : ∀ q ∈ L, q ≠ x → f53 q = f q := fun q h hne => (hf53 q hne).trans (hof51 q h hne)
  have h53_ca : f53 ca = eI G 880 (fun _ => 0) := (hf53 _ nx_ca).trans h51_ca
  have h53_fn : f53 fn = eI G 10 (fun _ => 0) := (hf53 _ nx_fn).trans h51_fn
  have h53_mu : f53 mu = eI G 10 (fun _ => 0) := (hf53 _ nx_mu).trans h51_mu
  have h53_ww : f53 ww = eJ G 1440 (fun _ => 0) := (hf53 _ nx_ww).trans h51_ww
  have h53_dd : f53 dd = eI G 60 (fun _ => 0) := (hf53 _ nx_dd).trans h51_dd
  have h53_fo : f53 fo = eI G 10 (fun _ => 0) := (hf53 _ nx_fo).trans h51_fo
  have h53_ta : f53 ta = eZ G 12 (fun _ => 0) := (hf53 _ nx_ta).trans h51_ta
  have h53_pd : f53 pd = eI G 12 (fun _ => 0) := (hf53 _ nx_pd).trans h51_pd
  have h53_ra : f53 ra = eI G 12 (fun _ => 0) := (hf53 _ nx_ra).trans h51_ra
  have h53_rb : f53 rb = eI G 12 (fun _ => 0) := (hf53 _ nx_rb).trans hv_rb
  have h53_x : f53 x = eO 8 fs52 := by rw [ef53]; exact va_up_eq _ _ _
  refine W.widen (k := 11) (n := 2478) (by decide) (by decide) ?_
  exact w_vret (lf := fun u => u) hx hb hr hlocks (L51, f53) hw (⟨hsub51, hof53, ww, dd, ca, ⟨fs52, (fun _ => 0), (fun _ => 0), m51_x, h53_x, hlen52, g52_1, g52_2, g52_3, g52_4, g52_7, g52_8, m51_ww, h53_ww, m51_dd, h53_dd, m51_ca, h53_ca, nn_ca_dd.symm⟩, nl_ww, nl_dd, nl_ca⟩) dX8_init_222
