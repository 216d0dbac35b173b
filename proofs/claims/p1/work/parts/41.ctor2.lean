theorem u_172 : Cond.methodLink RX3 3 objectInit ∈ uU := uU_in (by decide +kernel) (by decide +kernel)
theorem u_173 : Cond.instanceMethod objectInit ∈ uU := uU_in (by decide +kernel) (by decide +kernel)
theorem u_174 : Cond.code objectInit ⟨#[0xb1]⟩ 1 none ∈ uU := uU_in (by decide +kernel) (by decide +kernel)
theorem u_175 : Cond.constantLong RX3 9 (2) ∈ uU := uU_in (by decide +kernel) (by decide +kernel)
theorem u_176 : Cond.fieldLink RX3 11 "LiftFactors$Field" "prime" "J" ∈ uU := uU_in (by decide +kernel) (by decide +kernel)
theorem u_177 : Cond.arrayClass .long ∈ uU := uU_in (by decide +kernel) (by decide +kernel)
theorem u_178 : Cond.fieldLink RX3 17 "LiftFactors$Field" "quotient" "[J" ∈ uU := uU_in (by decide +kernel) (by decide +kernel)
theorem u_179 : Cond.fieldLink RX3 21 "LiftFactors$Field" "wide" "[J" ∈ uU := uU_in (by decide +kernel) (by decide +kernel)
theorem u_180 : Cond.fieldLink RX3 24 "LiftFactors$Field" "left" "[J" ∈ uU := uU_in (by decide +kernel) (by decide +kernel)
theorem u_181 : Cond.fieldLink RX3 27 "LiftFactors$Field" "right" "[J" ∈ uU := uU_in (by decide +kernel) (by decide +kernel)
theorem u_182 : Cond.methodLink RX1 3 objectInit ∈ uU := uU_in (by decide +kernel) (by decide +kernel)
theorem u_183 : Cond.fieldLink RX1 9 "LiftFactors$Divider" "quotient" "[J" ∈ uU := uU_in (by decide +kernel) (by decide +kernel)
theorem u_184 : Cond.fieldLink RX1 15 "LiftFactors$Divider" "rest" "[J" ∈ uU := uU_in (by decide +kernel) (by decide +kernel)
theorem u_185 : Cond.methodLink RX4 3 objectInit ∈ uU := uU_in (by decide +kernel) (by decide +kernel)
theorem u_186 : Cond.fieldLink RX4 9 "LiftFactors$RootFinder" "above" "[J" ∈ uU := uU_in (by decide +kernel) (by decide +kernel)
theorem u_187 : Cond.fieldLink RX4 15 "LiftFactors$RootFinder" "below" "[J" ∈ uU := uU_in (by decide +kernel) (by decide +kernel)
theorem u_188 : Cond.fieldLink RX4 22 "LiftFactors$RootFinder" "heads" "[J" ∈ uU := uU_in (by decide +kernel) (by decide +kernel)
theorem u_189 : Cond.fieldLink RX4 25 "LiftFactors$RootFinder" "tails" "[J" ∈ uU := uU_in (by decide +kernel) (by decide +kernel)
theorem u_190 : Cond.methodLink RX0 1 objectInit ∈ uU := uU_in (by decide +kernel) (by decide +kernel)
theorem u_191 : Cond.fieldLink RX0 7 "LiftFactors$CommonDivisor" "field" "LLiftFactors$Field;" ∈ uU := uU_in (by decide +kernel) (by decide +kernel)
theorem u_192 : Cond.fieldLink RX0 13 "LiftFactors$CommonDivisor" "divider" "LLiftFactors$Divider;" ∈ uU := uU_in (by decide +kernel) (by decide +kernel)
theorem u_193 : Cond.methodLink RX6 3 objectInit ∈ uU := uU_in (by decide +kernel) (by decide +kernel)
theorem u_194 : Cond.classLink RX6 9 "[[J" ∈ uU := uU_in (by decide +kernel) (by decide +kernel)
theorem u_195 : Cond.fieldLink RX6 11 "LiftFactors$Splitter" "pieces" "[[J" ∈ uU := uU_in (by decide +kernel) (by decide +kernel)
theorem u_196 : Cond.fieldLink RX6 16 "LiftFactors$Splitter" "pieceCount" "I" ∈ uU := uU_in (by decide +kernel) (by decide +kernel)
theorem u_197 : Cond.fieldLink RX6 20 "LiftFactors$Splitter" "fixedCount" "I" ∈ uU := uU_in (by decide +kernel) (by decide +kernel)
theorem u_198 : Cond.fieldLink RX6 23 "LiftFactors$Splitter" "matrix" "[[J" ∈ uU := uU_in (by decide +kernel) (by decide +kernel)
theorem u_199 : Cond.fieldLink RX6 26 "LiftFactors$Splitter" "fixed" "[[J" ∈ uU := uU_in (by decide +kernel) (by decide +kernel)
theorem u_200 : Cond.arrayClass .int ∈ uU := uU_in (by decide +kernel) (by decide +kernel)
theorem u_201 : Cond.fieldLink RX6 29 "LiftFactors$Splitter" "pivotRows" "[I" ∈ uU := uU_in (by decide +kernel) (by decide +kernel)
theorem u_202 : Cond.fieldLink RX6 33 "LiftFactors$Splitter" "base" "[J" ∈ uU := uU_in (by decide +kernel) (by decide +kernel)
theorem u_203 : Cond.fieldLink RX6 37 "LiftFactors$Splitter" "trial" "[J" ∈ uU := uU_in (by decide +kernel) (by decide +kernel)
theorem u_204 : Cond.fieldLink RX6 40 "LiftFactors$Splitter" "field" "LLiftFactors$Field;" ∈ uU := uU_in (by decide +kernel) (by decide +kernel)
theorem u_205 : Cond.methodLink RX2 3 objectInit ∈ uU := uU_in (by decide +kernel) (by decide +kernel)
theorem u_206 : Cond.classLink RX2 9 "[[J" ∈ uU := uU_in (by decide +kernel) (by decide +kernel)
theorem u_207 : Cond.fieldLink RX2 11 "LiftFactors$Factorizer" "found" "[[J" ∈ uU := uU_in (by decide +kernel) (by decide +kernel)
theorem u_208 : Cond.fieldLink RX2 16 "LiftFactors$Factorizer" "multiplicities" "[I" ∈ uU := uU_in (by decide +kernel) (by decide +kernel)
theorem u_209 : Cond.fieldLink RX2 20 "LiftFactors$Factorizer" "foundCount" "I" ∈ uU := uU_in (by decide +kernel) (by decide +kernel)
theorem u_210 : Cond.fieldLink RX2 24 "LiftFactors$Factorizer" "left" "[J" ∈ uU := uU_in (by decide +kernel) (by decide +kernel)
theorem u_211 : Cond.fieldLink RX2 28 "LiftFactors$Factorizer" "monic" "[J" ∈ uU := uU_in (by decide +kernel) (by decide +kernel)
theorem u_212 : Cond.fieldLink RX2 31 "LiftFactors$Factorizer" "derived" "[J" ∈ uU := uU_in (by decide +kernel) (by decide +kernel)
theorem u_213 : Cond.fieldLink RX2 34 "LiftFactors$Factorizer" "candidate" "[J" ∈ uU := uU_in (by decide +kernel) (by decide +kernel)
theorem u_214 : Cond.fieldLink RX2 37 "LiftFactors$Factorizer" "field" "LLiftFactors$Field;" ∈ uU := uU_in (by decide +kernel) (by decide +kernel)
theorem u_215 : Cond.fieldLink RX2 41 "LiftFactors$Factorizer" "divider" "LLiftFactors$Divider;" ∈ uU := uU_in (by decide +kernel) (by decide +kernel)
theorem u_216 : Cond.fieldLink RX2 45 "LiftFactors$Factorizer" "common" "LLiftFactors$CommonDivisor;" ∈ uU := uU_in (by decide +kernel) (by decide +kernel)
theorem u_217 : Cond.fieldLink RX2 49 "LiftFactors$Factorizer" "splitter" "LLiftFactors$Splitter;" ∈ uU := uU_in (by decide +kernel) (by decide +kernel)
set_option maxRecDepth 100000 in
set_option maxHeartbeats 4000000 in
theorem k_X3_init (l : Launch) (G : gG) (L : List Nat) (f : Nat → va_E) (sz : Nat)  (x : Nat) (fs : List Value) (hxL : x ∈ L) (hxo : f x = eO 4 fs) (hfl : fs.length = 5) :
    Met l yX3_init (uW yX3_init cX3_init 1 none) { frames := 1, cells := 4, slots := 54, locals := 20 } (wInK G [.ref x] L f sz) (va_Qv (fun (u : List Nat × (Nat → va_E)) => kP L f x 4 5 u) (fun u => wAt G (wA L f sz) u.1 u.2) (wA L f sz)) 4 54 (wA L f sz) := by
  refine kEnter (by decide) (by decide) (Nat.le_of_ble_eq_true rfl) ?_
  intro p e s m below meth c ls cx hin hl hw hk
  obtain ⟨hx, hb, hr, hml, hown, hts, hlocks⟩ := id cx
  have hown : s.vm.findClass RX3 = some m.cls := hown
  have hl : lv_has ls 1 [(0, .ref x)] := hl
  generalize wA L f sz = A at hw ⊢
  have hsub0 : ∀ q ∈ L, q ∈ L := fun _ h => h
  have hof0 : ∀ q ∈ L, q ≠ x → f q = f q := fun _ _ _ => rfl

  refine lv_aload_n hx hb dX3_init_0 rfl (lv_at hl 0 rfl) ?_
  refine W.objInit hx hb hown (hts _ u_172) (hts _ u_173) (hts _ u_174) rfl (by rw [hml]; exact hl.1) rfl dX3_init_1 (Nat.le_of_ble_eq_true rfl) (Nat.le_of_ble_eq_true rfl) ?_
  refine W.eq (g2 := F0 m 4 ls []) rfl ?_
  refine lv_aload_n hx hb dX3_init_4 rfl (lv_at hl 0 rfl) ?_
  refine lv_ldc2 (v := 2) hx hb hown (hts _ u_175) dX3_init_5 ?_
  refine w_put (C := RX3) (T := TX3) (N := 5) (ci := 4) (ref := "LiftFactors$Field") (ty := .long) (v := .long 2) hx hb hts inX3_u tyX3 tyX3_ok nmX3 hown hw hxL hxo rfl 0 (by decide) u_176 rfl rfl (by decide +kernel) rfl rfl (by rw [hfl]; decide) dX3_init_8 (fun H locs hw => ?_)
  obtain ⟨fs1, hz1⟩ : ∃ zz9, zz9 = fs.set 0 (.long 2) := ⟨_, rfl⟩
  rw [← hz1] at hw
  have hlen1 : fs1.length = 5 := by rw [hz1, List.length_set]; exact hfl
  have g1_0 : fs1[0]? = some (.long 2) := by rw [hz1, List.getElem?_set_self (by rw [hfl]; decide)]
  obtain ⟨f2, ef2⟩ : ∃ z9 : Nat → va_E, z9 = va_up f x (eO 4 fs1) := ⟨_, rfl⟩
  rw [← ef2] at hw
  have eL2 : L = L := rfl
  have hf2 : ∀ q : Nat, q ≠ x → f2 q = f q := fun q hne => by rw [ef2]; exact va_up_ne _ _ hne
  have hof2 : ∀ q ∈ L, q ≠ x → f2 q = f q := fun q h hne => (hf2 q hne).trans (hof0 q h hne)
  have h2_x : f2 x = eO 4 fs1 := by rw [ef2]; exact va_up_eq _ _ _
  refine lv_aload_n hx hb dX3_init_11 rfl (lv_at hl 0 rfl) ?_
  refine lv_bipush (v := nI 11) hx hb dX3_init_12 (by decide) ?_
  refine k_newJ hx hb hts u_177 hw 11 (by decide) (by decide) (by decide) dX3_init_14 (fun q1 H hq_q1 hw => ?_)
  obtain ⟨L3, eL3⟩ : ∃ z : List Nat, z = L ++ [q1] := ⟨_, rfl⟩
  obtain ⟨f3, ef3⟩ : ∃ z : Nat → va_E, z = va_up f2 q1 (eJ G 11 (fun _ => 0)) := ⟨_, rfl⟩
  rw [← eL3, ← ef3] at hw
  have hm3 : ∀ q ∈ L, q ∈ L3 := fun q h => by rw [eL3]; exact List.mem_append_left _ h
  have hf3 : ∀ q ∈ L, True → f3 q = f2 q := fun q h hne => by rw [ef3]; exact va_up_ne _ _ (fun h9 => hq_q1 (by rw [← h9]; exact h))
  have hsub3 : ∀ q ∈ L, q ∈ L3 := fun q h => hm3 q (hsub0 q h)
  have hof3 : ∀ q ∈ L, q ≠ x → f3 q = f q := fun q h hne => (hf3 q (hsub0 q h) trivial).trans (hof2 q h hne)
  have m3_x : x ∈ L3 := hm3 _ hxL
  have h3_x : f3 x = eO 4 fs1 := (hf3 _ hxL trivial).trans h2_x
  have mq_q1 : q1 ∈ L3 := by rw [eL3]; exact List.mem_append_right _ (List.mem_singleton.mpr rfl)
  have hv_q1 : f3 q1 = eJ G 11 (fun _ => 0) := by rw [ef3]; exact va_up_eq _ _ _
  have nx_q1 : q1 ≠ x := fun h9 => hq_q1 (by rw [h9]; exact hxL)
  refine k_putF (own := RX3) (C := RX3) (T := TX3) (N := 5) (ci := 4) (ty := (.array .long)) (v := .ref q1) hx hb hts inX3_u tyX3 tyX3_ok nmX3 hown hw m3_x h3_x rfl 1 (by decide) u_178 rfl rfl hin (by decide +kernel) rfl rfl (by rw [hlen1]; decide) dX3_init_16 (fun H locs hw => ?_)
  obtain ⟨fs4, hz4⟩ : ∃ zz9, zz9 = fs1.set 1 (.ref q1) := ⟨_, rfl⟩
  rw [← hz4] at hw
  have hlen4 : fs4.length = 5 := by rw [hz4, List.length_set]; exact hlen1
  have g4_0 : fs4[0]? = some (.long 2) := by rw [hz4, List.getElem?_set_ne (by decide)]; exact g1_0
  have g4_1 : fs4[1]? = some (.ref q1) := by rw [hz4, List.getElem?_set_self (by rw [hlen1]; decide)]
  obtain ⟨f5, ef5⟩ : ∃ z9 : Nat → va_E, z9 = va_up f3 x (eO 4 fs4) := ⟨_, rfl⟩
  rw [← ef5] at hw
  have eL5 : L3 = L3 := rfl
  have hf5 : ∀ q : Nat, q ≠ x → f5 q = f3 q := fun q hne => by rw [ef5]; exact va_up_ne _ _ hne
  have hof5 : ∀ q ∈ L, q ≠ x → f5 q = f q := fun q h hne => (hf5 q hne).trans (hof3 q h hne)
  have h5_q1 : f5 q1 = eJ G 11 (fun _ => 0) := (hf5 _ nx_q1).trans hv_q1
  have h5_x : f5 x = eO 4 fs4 := by rw [ef5]; exact va_up_eq _ _ _
  refine lv_aload_n hx hb dX3_init_19 rfl (lv_at hl 0 rfl) ?_
  refine lv_bipush (v := nI 21) hx hb dX3_init_20 (by decide) ?_
  refine k_newJ hx hb hts u_177 hw 21 (by decide) (by decide) (by decide) dX3_init_22 (fun q2 H hq_q2 hw => ?_)
  obtain ⟨L6, eL6⟩ : ∃ z : List Nat, z = L3 ++ [q2] := ⟨_, rfl⟩
  obtain ⟨f6, ef6⟩ : ∃ z : Nat → va_E, z = va_up f5 q2 (eJ G 21 (fun _ => 0)) := ⟨_, rfl⟩
  rw [← eL6, ← ef6] at hw
  have hm6 : ∀ q ∈ L3, q ∈ L6 := fun q h => by rw [eL6]; exact List.mem_append_left _ h
  have hf6 : ∀ q ∈ L3, True → f6 q = f5 q := fun q h hne => by rw [ef6]; exact va_up_ne _ _ (fun h9 => hq_q2 (by rw [← h9]; exact h))
  have hsub6 : ∀ q ∈ L, q ∈ L6 := fun q h => hm6 q (hsub3 q h)
  have hof6 : ∀ q ∈ L, q ≠ x → f6 q = f q := fun q h hne => (hf6 q (hsub3 q h) trivial).trans (hof5 q h hne)
  have m6_x : x ∈ L6 := hm6 _ m3_x
  have h6_x : f6 x = eO 4 fs4 := (hf6 _ m3_x trivial).trans h5_x
  have m6_q1 : q1 ∈ L6 := hm6 _ mq_q1
  have h6_q1 : f6 q1 = eJ G 11 (fun _ => 0) := (hf6 _ mq_q1 trivial).trans h5_q1
  have mq_q2 : q2 ∈ L6 := by rw [eL6]; exact List.mem_append_right _ (List.mem_singleton.mpr rfl)
  have hv_q2 : f6 q2 = eJ G 21 (fun _ => 0) := by rw [ef6]; exact va_up_eq _ _ _
  have nx_q2 : q2 ≠ x := fun h9 => hq_q2 (by rw [h9]; exact m3_x)
  refine k_putF (own := RX3) (C := RX3) (T := TX3) (N := 5) (ci := 4) (ty := (.array .long)) (v := .ref q2) hx hb hts inX3_u tyX3 tyX3_ok nmX3 hown hw m6_x h6_x rfl 2 (by decide) u_179 rfl rfl hin (by decide +kernel) rfl rfl (by rw [hlen4]; decide) dX3_init_24 (fun H locs hw => ?_)
  obtain ⟨fs7, hz7⟩ : ∃ zz9, zz9 = fs4.set 2 (.ref q2) := ⟨_, rfl⟩
  rw [← hz7] at hw
  have hlen7 : fs7.length = 5 := by rw [hz7, List.length_set]; exact hlen4
  have g7_0 : fs7[0]? = some (.long 2) := by rw [hz7, List.getElem?_set_ne (by decide)]; exact g4_0
  have g7_1 : fs7[1]? = some (.ref q1) := by rw [hz7, List.getElem?_set_ne (by decide)]; exact g4_1
  have g7_2 : fs7[2]? = some (.ref q2) := by rw [hz7, List.getElem?_set_self (by rw [hlen4]; decide)]
  obtain ⟨f8, ef8⟩ : ∃ z9 : Nat → va_E, z9 = va_up f6 x (eO 4 fs7) := ⟨_, rfl⟩
  rw [← ef8] at hw
  have eL8 : L6 = L6 := rfl
  have hf8 : ∀ q : Nat, q ≠ x → f8 q = f6 q := fun q hne => by rw [ef8]; exact va_up_ne _ _ hne
  have hof8 : ∀ q ∈ L, q ≠ x → f8 q = f q := fun q h hne => (hf8 q hne).trans (hof6 q h hne)
  have h8_q1 : f8 q1 = eJ G 11 (fun _ => 0) := (hf8 _ nx_q1).trans h6_q1
  have h8_q2 : f8 q2 = eJ G 21 (fun _ => 0) := (hf8 _ nx_q2).trans hv_q2
  have h8_x : f8 x = eO 4 fs7 := by rw [ef8]; exact va_up_eq _ _ _
  refine lv_aload_n hx hb dX3_init_27 rfl (lv_at hl 0 rfl) ?_
  refine lv_bipush (v := nI 11) hx hb dX3_init_28 (by decide) ?_
  refine k_newJ hx hb hts u_177 hw 11 (by decide) (by decide) (by decide) dX3_init_30 (fun q3 H hq_q3 hw => ?_)
  obtain ⟨L9, eL9⟩ : ∃ z : List Nat, z = L6 ++ [q3] := ⟨_, rfl⟩
  obtain ⟨f9, ef9⟩ : ∃ z : Nat → va_E, z = va_up f8 q3 (eJ G 11 (fun _ => 0)) := ⟨_, rfl⟩
  rw [← eL9, ← ef9] at hw
  have hm9 : ∀ q ∈ L6, q ∈ L9 := fun q h => by rw [eL9]; exact List.mem_append_left _ h
  have hf9 : ∀ q ∈ L6, True → f9 q = f8 q := fun q h hne => by rw [ef9]; exact va_up_ne _ _ (fun h9 => hq_q3 (by rw [← h9]; exact h))
  have hsub9 : ∀ q ∈ L, q ∈ L9 := fun q h => hm9 q (hsub6 q h)
  have hof9 : ∀ q ∈ L, q ≠ x → f9 q = f q := fun q h hne => (hf9 q (hsub6 q h) trivial).trans (hof8 q h hne)
  have m9_x : x ∈ L9 := hm9 _ m6_x
  have h9_x : f9 x = eO 4 fs7 := (hf9 _ m6_x trivial).trans h8_x
  have m9_q1 : q1 ∈ L9 := hm9 _ m6_q1
  have h9_q1 : f9 q1 = eJ G 11 (fun _ => 0) := (hf9 _ m6_q1 trivial).trans h8_q1
  have m9_q2 : q2 ∈ L9 := hm9 _ mq_q2
  have h9_q2 : f9 q2 = eJ G 21 (fun _ => 0) := (hf9 _ mq_q2 trivial).trans h8_q2
  have mq_q3 : q3 ∈ L9 := by rw [eL9]; exact List.mem_append_right _ (List.mem_singleton.mpr rfl)
  have hv_q3 : f9 q3 = eJ G 11 (fun _ => 0) := by rw [ef9]; exact va_up_eq _ _ _
  have nx_q3 : q3 ≠ x := fun h9 => hq_q3 (by rw [h9]; exact m6_x)
  refine k_putF (own := RX3) (C := RX3) (T := TX3) (N := 5) (ci := 4) (ty := (.array .long)) (v := .ref q3) hx hb hts inX3_u tyX3 tyX3_ok nmX3 hown hw m9_x h9_x rfl 3 (by decide) u_180 rfl rfl hin (by decide +kernel) rfl rfl (by rw [hlen7]; decide) dX3_init_32 (fun H locs hw => ?_)
  obtain ⟨fs10, hz10⟩ : ∃ zz9, zz9 = fs7.set 3 (.ref q3) := ⟨_, rfl⟩
  rw [← hz10] at hw
  have hlen10 : fs10.length = 5 := by rw [hz10, List.length_set]; exact hlen7
  have g10_0 : fs10[0]? = some (.long 2) := by rw [hz10, List.getElem?_set_ne (by decide)]; exact g7_0
  have g10_1 : fs10[1]? = some (.ref q1) := by rw [hz10, List.getElem?_set_ne (by decide)]; exact g7_1
  have g10_2 : fs10[2]? = some (.ref q2) := by rw [hz10, List.getElem?_set_ne (by decide)]; exact g7_2
  have g10_3 : fs10[3]? = some (.ref q3) := by rw [hz10, List.getElem?_set_self (by rw [hlen7]; decide)]
  obtain ⟨f11, ef11⟩ : ∃ z9 : Nat → va_E, z9 = va_up f9 x (eO 4 fs10) := ⟨_, rfl⟩
  rw [← ef11] at hw
  have eL11 : L9 = L9 := rfl
  have hf11 : ∀ q : Nat, q ≠ x → f11 q = f9 q := fun q hne => by rw [ef11]; exact va_up_ne _ _ hne
  have hof11 : ∀ q ∈ L, q ≠ x → f11 q = f q := fun q h hne => (hf11 q hne).trans (hof9 q h hne)
  have h11_q1 : f11 q1 = eJ G 11 (fun _ => 0) := (hf11 _ nx_q1).trans h9_q1
  have h11_q2 : f11 q2 = eJ G 21 (fun _ => 0) := (hf11 _ nx_q2).trans h9_q2
  have h11_q3 : f11 q3 = eJ G 11 (fun _ => 0) := (hf11 _ nx_q3).trans hv_q3
  have h11_x : f11 x = eO 4 fs10 := by rw [ef11]; exact va_up_eq _ _ _
  refine lv_aload_n hx hb dX3_init_35 rfl (lv_at hl 0 rfl) ?_
  refine lv_bipush (v := nI 11) hx hb dX3_init_36 (by decide) ?_
  refine k_newJ hx hb hts u_177 hw 11 (by decide) (by decide) (by decide) dX3_init_38 (fun q4 H hq_q4 hw => ?_)
  obtain ⟨L12, eL12⟩ : ∃ z : List Nat, z = L9 ++ [q4] := ⟨_, rfl⟩
  obtain ⟨f12, ef12⟩ : ∃ z : Nat → va_E, z = va_up f11 q4 (eJ G 11 (fun _ => 0)) := ⟨_, rfl⟩
  rw [← eL12, ← ef12] at hw
  have hm12 : ∀ q ∈ L9, q ∈ L12 := fun q h => by rw [eL12]; exact List.mem_append_left _ h
  have hf12 : ∀ q ∈ L9, True → f12 q = f11 q := fun q h hne => by rw [ef12]; exact va_up_ne _ _ (fun h9 => hq_q4 (by rw [← h9]; exact h))
  have hsub12 : ∀ q ∈ L, q ∈ L12 := fun q h => hm12 q (hsub9 q h)
  have hof12 : ∀ q ∈ L, q ≠ x → f12 q = f q := fun q h hne => (hf12 q (hsub9 q h) trivial).trans (hof11 q h hne)
  have m12_x : x ∈ L12 := hm12 _ m9_x
  have h12_x : f12 x = eO 4 fs10 := (hf12 _ m9_x trivial).trans h11_x
  have m12_q1 : q1 ∈ L12 := hm12 _ m9_q1
  have h12_q1 : f12 q1 = eJ G 11 (fun _ => 0) := (hf12 _ m9_q1 trivial).trans h11_q1
  have m12_q2 : q2 ∈ L12 := hm12 _ m9_q2
  have h12_q2 : f12 q2 = eJ G 21 (fun _ => 0) := (hf12 _ m9_q2 trivial).trans h11_q2
  have m12_q3 : q3 ∈ L12 := hm12 _ mq_q3
  have h12_q3 : f12 q3 = eJ G 11 (fun _ => 0) := (hf12 _ mq_q3 trivial).trans h11_q3
  have mq_q4 : q4 ∈ L12 := by rw [eL12]; exact List.mem_append_right _ (List.mem_singleton.mpr rfl)
  have hv_q4 : f12 q4 = eJ G 11 (fun _ => 0) := by rw [ef12]; exact va_up_eq _ _ _
  have nx_q4 : q4 ≠ x := fun h9 => hq_q4 (by rw [h9]; exact m9_x)
  refine k_putF (own := RX3) (C := RX3) (T := TX3) (N := 5) (ci := 4) (ty := (.array .long)) (v := .ref q4) hx hb hts inX3_u tyX3 tyX3_ok nmX3 hown hw m12_x h12_x rfl 4 (by decide) u_181 rfl rfl hin (by decide +kernel) rfl rfl (by rw [hlen10]; decide) dX3_init_40 (fun H locs hw => ?_)
  obtain ⟨fs13, hz13⟩ : ∃ zz9, zz9 = fs10.set 4 (.ref q4) := ⟨_, rfl⟩
  rw [← hz13] at hw
  have hlen13 : fs13.length = 5 := by rw [hz13, List.length_set]; exact hlen10
  have g13_0 : fs13[0]? = some (.long 2) := by rw [hz13, List.getElem?_set_ne (by decide)]; exact g10_0
  have g13_1 : fs13[1]? = some (.ref q1) := by rw [hz13, List.getElem?_set_ne (by decide)]; exact g10_1
  have g13_2 : fs13[2]? = some (.ref q2) := by rw [hz13, List.getElem?_set_ne (by decide)]; exact g10_2
  have g13_3 : fs13[3]? = some (.ref q3) := by rw [hz13, List.getElem?_set_ne (by decide)]; exact g10_3
  have g13_4 : fs13[4]? = some (.ref q4) := by rw [hz13, List.getElem?_set_self (by rw [hlen10]; decide)]
  obtain ⟨f14, ef14⟩ : ∃ z9 : Nat → va_E, z9 = va_up f12 x (eO 4 fs13) := ⟨_, rfl⟩
  rw [← ef14] at hw
  have eL14 : L12 = L12 := rfl
  have hf14 : ∀ q : Nat, q ≠ x → f14 q = f12 q := fun q hne => by rw [ef14]; exact va_up_ne _ _ hne
  have hof14 : ∀ q ∈ L, q ≠ x → f14 q = f q := fun q h hne => (hf14 q hne).trans (hof12 q h hne)
  have h14_q1 : f14 q1 = eJ G 11 (fun _ => 0) := (hf14 _ nx_q1).trans h12_q1
  have h14_q2 : f14 q2 = eJ G 21 (fun _ => 0) := (hf14 _ nx_q2).trans h12_q2
  have h14_q3 : f14 q3 = eJ G 11 (fun _ => 0) := (hf14 _ nx_q3).trans h12_q3
  have h14_q4 : f14 q4 = eJ G 11 (fun _ => 0) := (hf14 _ nx_q4).trans hv_q4
  have h14_x : f14 x = eO 4 fs13 := by rw [ef14]; exact va_up_eq _ _ _
  refine W.widen (k := 4) (n := 54) (by decide) (by decide) ?_
  exact w_vret (lf := fun u => u) hx hb hr hlocks (L12, f14) hw (⟨hsub12, hof14, fs13, h14_x, hlen13⟩) dX3_init_43
set_option maxRecDepth 100000 in
set_option maxHeartbeats 4000000 in
theorem k_X1_init (l : Launch) (G : gG) (L : List Nat) (f : Nat → va_E) (sz : Nat)  (x : Nat) (fs : List Value) (hxL : x ∈ L) (hxo : f x = eO 2 fs) (hfl : fs.length = 2) :
    Met l yX1_init (uW yX1_init cX1_init 1 none) { frames := 1, cells := 2, slots := 22, locals := 20 } (wInK G [.ref x] L f sz) (va_Qv (fun (u : List Nat × (Nat → va_E)) => kP L f x 2 2 u) (fun u => wAt G (wA L f sz) u.1 u.2) (wA L f sz)) 2 22 (wA L f sz) := by
  refine kEnter (by decide) (by decide) (Nat.le_of_ble_eq_true rfl) ?_
  intro p e s m below meth c ls cx hin hl hw hk
  obtain ⟨hx, hb, hr, hml, hown, hts, hlocks⟩ := id cx
  have hown : s.vm.findClass RX1 = some m.cls := hown
  have hl : lv_has ls 1 [(0, .ref x)] := hl
  generalize wA L f sz = A at hw ⊢
  have hsub0 : ∀ q ∈ L, q ∈ L := fun _ h => h
  have hof0 : ∀ q ∈ L, q ≠ x → f q = f q := fun _ _ _ => rfl

  refine lv_aload_n hx hb dX1_init_0 rfl (lv_at hl 0 rfl) ?_
  refine W.objInit hx hb hown (hts _ u_182) (hts _ u_173) (hts _ u_174) rfl (by rw [hml]; exact hl.1) rfl dX1_init_1 (Nat.le_of_ble_eq_true rfl) (Nat.le_of_ble_eq_true rfl) ?_
  refine W.eq (g2 := F0 m 4 ls []) rfl ?_
  refine lv_aload_n hx hb dX1_init_4 rfl (lv_at hl 0 rfl) ?_
  refine lv_bipush (v := nI 11) hx hb dX1_init_5 (by decide) ?_
  refine k_newJ hx hb hts u_177 hw 11 (by decide) (by decide) (by decide) dX1_init_7 (fun q1 H hq_q1 hw => ?_)
  obtain ⟨L1, eL1⟩ : ∃ z : List Nat, z = L ++ [q1] := ⟨_, rfl⟩
  obtain ⟨f1, ef1⟩ : ∃ z : Nat → va_E, z = va_up f q1 (eJ G 11 (fun _ => 0)) := ⟨_, rfl⟩
  rw [← eL1, ← ef1] at hw
  have hm1 : ∀ q ∈ L, q ∈ L1 := fun q h => by rw [eL1]; exact List.mem_append_left _ h
  have hf1 : ∀ q ∈ L, True → f1 q = f q := fun q h hne => by rw [ef1]; exact va_up_ne _ _ (fun h9 => hq_q1 (by rw [← h9]; exact h))
  have hsub1 : ∀ q ∈ L, q ∈ L1 := fun q h => hm1 q (hsub0 q h)
  have hof1 : ∀ q ∈ L, q ≠ x → f1 q = f q := fun q h hne => (hf1 q (hsub0 q h) trivial).trans (hof0 q h hne)
  have m1_x : x ∈ L1 := hm1 _ hxL
  have h1_x : f1 x = eO 2 fs := (hf1 _ hxL trivial).trans hxo
  have mq_q1 : q1 ∈ L1 := by rw [eL1]; exact List.mem_append_right _ (List.mem_singleton.mpr rfl)
  have hv_q1 : f1 q1 = eJ G 11 (fun _ => 0) := by rw [ef1]; exact va_up_eq _ _ _
  have nx_q1 : q1 ≠ x := fun h9 => hq_q1 (by rw [h9]; exact hxL)
  refine k_putF (own := RX1) (C := RX1) (T := TX1) (N := 2) (ci := 2) (ty := (.array .long)) (v := .ref q1) hx hb hts inX1_u tyX1 tyX1_ok nmX1 hown hw m1_x h1_x rfl 0 (by decide) u_183 rfl rfl hin (by decide +kernel) rfl rfl (by rw [hfl]; decide) dX1_init_9 (fun H locs hw => ?_)
  obtain ⟨fs2, hz2⟩ : ∃ zz9, zz9 = fs.set 0 (.ref q1) := ⟨_, rfl⟩
  rw [← hz2] at hw
  have hlen2 : fs2.length = 2 := by rw [hz2, List.length_set]; exact hfl
  have g2_0 : fs2[0]? = some (.ref q1) := by rw [hz2, List.getElem?_set_self (by rw [hfl]; decide)]
  obtain ⟨f3, ef3⟩ : ∃ z9 : Nat → va_E, z9 = va_up f1 x (eO 2 fs2) := ⟨_, rfl⟩
  rw [← ef3] at hw
  have eL3 : L1 = L1 := rfl
  have hf3 : ∀ q : Nat, q ≠ x → f3 q = f1 q := fun q hne => by rw [ef3]; exact va_up_ne _ _ hne
  have hof3 : ∀ q ∈ L, q ≠ x → f3 q = f q := fun q h hne => (hf3 q hne).trans (hof1 q h hne)
  have h3_q1 : f3 q1 = eJ G 11 (fun _ => 0) := (hf3 _ nx_q1).trans hv_q1
  have h3_x : f3 x = eO 2 fs2 := by rw [ef3]; exact va_up_eq _ _ _
  refine lv_aload_n hx hb dX1_init_12 rfl (lv_at hl 0 rfl) ?_
  refine lv_bipush (v := nI 11) hx hb dX1_init_13 (by decide) ?_
  refine k_newJ hx hb hts u_177 hw 11 (by decide) (by decide) (by decide) dX1_init_15 (fun q2 H hq_q2 hw => ?_)
  obtain ⟨L4, eL4⟩ : ∃ z : List Nat, z = L1 ++ [q2] := ⟨_, rfl⟩
  obtain ⟨f4, ef4⟩ : ∃ z : Nat → va_E, z = va_up f3 q2 (eJ G 11 (fun _ => 0)) := ⟨_, rfl⟩
  rw [← eL4, ← ef4] at hw
  have hm4 : ∀ q ∈ L1, q ∈ L4 := fun q h => by rw [eL4]; exact List.mem_append_left _ h
  have hf4 : ∀ q ∈ L1, True → f4 q = f3 q := fun q h hne => by rw [ef4]; exact va_up_ne _ _ (fun h9 => hq_q2 (by rw [← h9]; exact h))
  have hsub4 : ∀ q ∈ L, q ∈ L4 := fun q h => hm4 q (hsub1 q h)
  have hof4 : ∀ q ∈ L, q ≠ x → f4 q = f q := fun q h hne => (hf4 q (hsub1 q h) trivial).trans (hof3 q h hne)
  have m4_x : x ∈ L4 := hm4 _ m1_x
  have h4_x : f4 x = eO 2 fs2 := (hf4 _ m1_x trivial).trans h3_x
  have m4_q1 : q1 ∈ L4 := hm4 _ mq_q1
  have h4_q1 : f4 q1 = eJ G 11 (fun _ => 0) := (hf4 _ mq_q1 trivial).trans h3_q1
  have mq_q2 : q2 ∈ L4 := by rw [eL4]; exact List.mem_append_right _ (List.mem_singleton.mpr rfl)
  have hv_q2 : f4 q2 = eJ G 11 (fun _ => 0) := by rw [ef4]; exact va_up_eq _ _ _
  have nx_q2 : q2 ≠ x := fun h9 => hq_q2 (by rw [h9]; exact m1_x)
  refine k_putF (own := RX1) (C := RX1) (T := TX1) (N := 2) (ci := 2) (ty := (.array .long)) (v := .ref q2) hx hb hts inX1_u tyX1 tyX1_ok nmX1 hown hw m4_x h4_x rfl 1 (by decide) u_184 rfl rfl hin (by decide +kernel) rfl rfl (by rw [hlen2]; decide) dX1_init_17 (fun H locs hw => ?_)
  obtain ⟨fs5, hz5⟩ : ∃ zz9, zz9 = fs2.set 1 (.ref q2) := ⟨_, rfl⟩
  rw [← hz5] at hw
  have hlen5 : fs5.length = 2 := by rw [hz5, List.length_set]; exact hlen2
  have g5_0 : fs5[0]? = some (.ref q1) := by rw [hz5, List.getElem?_set_ne (by decide)]; exact g2_0
  have g5_1 : fs5[1]? = some (.ref q2) := by rw [hz5, List.getElem?_set_self (by rw [hlen2]; decide)]
  obtain ⟨f6, ef6⟩ : ∃ z9 : Nat → va_E, z9 = va_up f4 x (eO 2 fs5) := ⟨_, rfl⟩
  rw [← ef6] at hw
  have eL6 : L4 = L4 := rfl
  have hf6 : ∀ q : Nat, q ≠ x → f6 q = f4 q := fun q hne => by rw [ef6]; exact va_up_ne _ _ hne
  have hof6 : ∀ q ∈ L, q ≠ x → f6 q = f q := fun q h hne => (hf6 q hne).trans (hof4 q h hne)
  have h6_q1 : f6 q1 = eJ G 11 (fun _ => 0) := (hf6 _ nx_q1).trans h4_q1
  have h6_q2 : f6 q2 = eJ G 11 (fun _ => 0) := (hf6 _ nx_q2).trans hv_q2
  have h6_x : f6 x = eO 2 fs5 := by rw [ef6]; exact va_up_eq _ _ _
  refine W.widen (k := 2) (n := 22) (by decide) (by decide) ?_
  exact w_vret (lf := fun u => u) hx hb hr hlocks (L4, f6) hw (⟨hsub4, hof6, fs5, h6_x, hlen5⟩) dX1_init_20
set_option maxRecDepth 100000 in
set_option maxHeartbeats 4000000 in
theorem k_X4_init (l : Launch) (G : gG) (L : List Nat) (f : Nat → va_E) (sz : Nat)  (x : Nat) (fs : List Value) (hxL : x ∈ L) (hxo : f x = eO 5 fs) (hfl : fs.length = 5) :
    Met l yX4_init (uW yX4_init cX4_init 1 none) { frames := 1, cells := 4, slots := 148, locals := 20 } (wInK G [.ref x] L f sz) (va_Qv (fun (u : List Nat × (Nat → va_E)) => kP L f x 5 5 u) (fun u => wAt G (wA L f sz) u.1 u.2) (wA L f sz)) 4 148 (wA L f sz) := by
  refine kEnter (by decide) (by decide) (Nat.le_of_ble_eq_true rfl) ?_
  intro p e s m below meth c ls cx hin hl hw hk
  obtain ⟨hx, hb, hr, hml, hown, hts, hlocks⟩ := id cx
  have hown : s.vm.findClass RX4 = some m.cls := hown
  have hl : lv_has ls 1 [(0, .ref x)] := hl
  generalize wA L f sz = A at hw ⊢
  have hsub0 : ∀ q ∈ L, q ∈ L := fun _ h => h
  have hof0 : ∀ q ∈ L, q ≠ x → f q = f q := fun _ _ _ => rfl

  refine lv_aload_n hx hb dX4_init_0 rfl (lv_at hl 0 rfl) ?_
  refine W.objInit hx hb hown (hts _ u_185) (hts _ u_173) (hts _ u_174) rfl (by rw [hml]; exact hl.1) rfl dX4_init_1 (Nat.le_of_ble_eq_true rfl) (Nat.le_of_ble_eq_true rfl) ?_
  refine W.eq (g2 := F0 m 4 ls []) rfl ?_
  refine lv_aload_n hx hb dX4_init_4 rfl (lv_at hl 0 rfl) ?_
  refine lv_bipush (v := nI 10) hx hb dX4_init_5 (by decide) ?_
  refine k_newJ hx hb hts u_177 hw 10 (by decide) (by decide) (by decide) dX4_init_7 (fun q1 H hq_q1 hw => ?_)
  obtain ⟨L1, eL1⟩ : ∃ z : List Nat, z = L ++ [q1] := ⟨_, rfl⟩
  obtain ⟨f1, ef1⟩ : ∃ z : Nat → va_E, z = va_up f q1 (eJ G 10 (fun _ => 0)) := ⟨_, rfl⟩
  rw [← eL1, ← ef1] at hw
  have hm1 : ∀ q ∈ L, q ∈ L1 := fun q h => by rw [eL1]; exact List.mem_append_left _ h
  have hf1 : ∀ q ∈ L, True → f1 q = f q := fun q h hne => by rw [ef1]; exact va_up_ne _ _ (fun h9 => hq_q1 (by rw [← h9]; exact h))
  have hsub1 : ∀ q ∈ L, q ∈ L1 := fun q h => hm1 q (hsub0 q h)
  have hof1 : ∀ q ∈ L, q ≠ x → f1 q = f q := fun q h hne => (hf1 q (hsub0 q h) trivial).trans (hof0 q h hne)
  have m1_x : x ∈ L1 := hm1 _ hxL
  have h1_x : f1 x = eO 5 fs := (hf1 _ hxL trivial).trans hxo
  have mq_q1 : q1 ∈ L1 := by rw [eL1]; exact List.mem_append_right _ (List.mem_singleton.mpr rfl)
  have hv_q1 : f1 q1 = eJ G 10 (fun _ => 0) := by rw [ef1]; exact va_up_eq _ _ _
  have nx_q1 : q1 ≠ x := fun h9 => hq_q1 (by rw [h9]; exact hxL)
  refine k_putF (own := RX4) (C := RX4) (T := TX4) (N := 5) (ci := 5) (ty := (.array .long)) (v := .ref q1) hx hb hts inX4_u tyX4 tyX4_ok nmX4 hown hw m1_x h1_x rfl 0 (by decide) u_186 rfl rfl hin (by decide +kernel) rfl rfl (by rw [hfl]; decide) dX4_init_9 (fun H locs hw => ?_)
  obtain ⟨fs2, hz2⟩ : ∃ zz9, zz9 = fs.set 0 (.ref q1) := ⟨_, rfl⟩
  rw [← hz2] at hw
  have hlen2 : fs2.length = 5 := by rw [hz2, List.length_set]; exact hfl
  have g2_0 : fs2[0]? = some (.ref q1) := by rw [hz2, List.getElem?_set_self (by rw [hfl]; decide)]
  obtain ⟨f3, ef3⟩ : ∃ z9 : Nat → va_E, z9 = va_up f1 x (eO 5 fs2) := ⟨_, rfl⟩
  rw [← ef3] at hw
  have eL3 : L1 = L1 := rfl
  have hf3 : ∀ q : Nat, q ≠ x → f3 q = f1 q := fun q hne => by rw [ef3]; exact va_up_ne _ _ hne
  have hof3 : ∀ q ∈ L, q ≠ x → f3 q = f q := fun q h hne => (hf3 q hne).trans (hof1 q h hne)
  have h3_q1 : f3 q1 = eJ G 10 (fun _ => 0) := (hf3 _ nx_q1).trans hv_q1
  have h3_x : f3 x = eO 5 fs2 := by rw [ef3]; exact va_up_eq _ _ _
  refine lv_aload_n hx hb dX4_init_12 rfl (lv_at hl 0 rfl) ?_
  refine lv_bipush (v := nI 10) hx hb dX4_init_13 (by decide) ?_
  refine k_newJ hx hb hts u_177 hw 10 (by decide) (by decide) (by decide) dX4_init_15 (fun q2 H hq_q2 hw => ?_)
  obtain ⟨L4, eL4⟩ : ∃ z : List Nat, z = L1 ++ [q2] := ⟨_, rfl⟩
  obtain ⟨f4, ef4⟩ : ∃ z : Nat → va_E, z = va_up f3 q2 (eJ G 10 (fun _ => 0)) := ⟨_, rfl⟩
  rw [← eL4, ← ef4] at hw
  have hm4 : ∀ q ∈ L1, q ∈ L4 := fun q h => by rw [eL4]; exact List.mem_append_left _ h
  have hf4 : ∀ q ∈ L1, True → f4 q = f3 q := fun q h hne => by rw [ef4]; exact va_up_ne _ _ (fun h9 => hq_q2 (by rw [← h9]; exact h))
  have hsub4 : ∀ q ∈ L, q ∈ L4 := fun q h => hm4 q (hsub1 q h)
  have hof4 : ∀ q ∈ L, q ≠ x → f4 q = f q := fun q h hne => (hf4 q (hsub1 q h) trivial).trans (hof3 q h hne)
  have m4_x : x ∈ L4 := hm4 _ m1_x
  have h4_x : f4 x = eO 5 fs2 := (hf4 _ m1_x trivial).trans h3_x
  have m4_q1 : q1 ∈ L4 := hm4 _ mq_q1
  have h4_q1 : f4 q1 = eJ G 10 (fun _ => 0) := (hf4 _ mq_q1 trivial).trans h3_q1
  have mq_q2 : q2 ∈ L4 := by rw [eL4]; exact List.mem_append_right _ (List.mem_singleton.mpr rfl)
  have hv_q2 : f4 q2 = eJ G 10 (fun _ => 0) := by rw [ef4]; exact va_up_eq _ _ _
  have nx_q2 : q2 ≠ x := fun h9 => hq_q2 (by rw [h9]; exact m1_x)
  refine k_putF (own := RX4) (C := RX4) (T := TX4) (N := 5) (ci := 5) (ty := (.array .long)) (v := .ref q2) hx hb hts inX4_u tyX4 tyX4_ok nmX4 hown hw m4_x h4_x rfl 1 (by decide) u_187 rfl rfl hin (by decide +kernel) rfl rfl (by rw [hlen2]; decide) dX4_init_17 (fun H locs hw => ?_)
  obtain ⟨fs5, hz5⟩ : ∃ zz9, zz9 = fs2.set 1 (.ref q2) := ⟨_, rfl⟩
  rw [← hz5] at hw
  have hlen5 : fs5.length = 5 := by rw [hz5, List.length_set]; exact hlen2
  have g5_0 : fs5[0]? = some (.ref q1) := by rw [hz5, List.getElem?_set_ne (by decide)]; exact g2_0
  have g5_1 : fs5[1]? = some (.ref q2) := by rw [hz5, List.getElem?_set_self (by rw [hlen2]; decide)]
  obtain ⟨f6, ef6⟩ : ∃ z9 : Nat → va_E, z9 = va_up f4 x (eO 5 fs5) := ⟨_, rfl⟩
  rw [← ef6] at hw
  have eL6 : L4 = L4 := rfl
  have hf6 : ∀ q : Nat, q ≠ x → f6 q = f4 q := fun q hne => by rw [ef6]; exact va_up_ne _ _ hne
  have hof6 : ∀ q ∈ L, q ≠ x → f6 q = f q := fun q h hne => (hf6 q hne).trans (hof4 q h hne)
  have h6_q1 : f6 q1 = eJ G 10 (fun _ => 0) := (hf6 _ nx_q1).trans h4_q1
  have h6_q2 : f6 q2 = eJ G 10 (fun _ => 0) := (hf6 _ nx_q2).trans hv_q2
  have h6_x : f6 x = eO 5 fs5 := by rw [ef6]; exact va_up_eq _ _ _
  refine lv_aload_n hx hb dX4_init_20 rfl (lv_at hl 0 rfl) ?_
  refine lv_iconst (v := nI 0) hx hb dX4_init_21 (by decide) ?_
  refine w_put (C := RX4) (T := TX4) (N := 5) (ci := 5) (ref := "LiftFactors$RootFinder") (ty := .int) (v := .int (nI 0)) hx hb hts inX4_u tyX4 tyX4_ok nmX4 hown hw m4_x h6_x rfl 2 (by decide) u_24 rfl rfl (by decide +kernel) rfl rfl (by rw [hlen5]; decide) dX4_init_22 (fun H locs hw => ?_)
  obtain ⟨fs7, hz7⟩ : ∃ zz9, zz9 = fs5.set 2 (.int (nI 0)) := ⟨_, rfl⟩
  rw [← hz7] at hw
  have hlen7 : fs7.length = 5 := by rw [hz7, List.length_set]; exact hlen5
  have g7_0 : fs7[0]? = some (.ref q1) := by rw [hz7, List.getElem?_set_ne (by decide)]; exact g5_0
  have g7_1 : fs7[1]? = some (.ref q2) := by rw [hz7, List.getElem?_set_ne (by decide)]; exact g5_1
  have g7_2 : fs7[2]? = some (.int (nI 0)) := by rw [hz7, List.getElem?_set_self (by rw [hlen5]; decide)]
  obtain ⟨f8, ef8⟩ : ∃ z9 : Nat → va_E, z9 = va_up f6 x (eO 5 fs7) := ⟨_, rfl⟩
  rw [← ef8] at hw
  have eL8 : L4 = L4 := rfl
  have hf8 : ∀ q : Nat, q ≠ x → f8 q = f6 q := fun q hne => by rw [ef8]; exact va_up_ne _ _ hne
  have hof8 : ∀ q ∈ L, q ≠ x → f8 q = f q := fun q h hne => (hf8 q hne).trans (hof6 q h hne)
  have h8_q1 : f8 q1 = eJ G 10 (fun _ => 0) := (hf8 _ nx_q1).trans h6_q1
  have h8_q2 : f8 q2 = eJ G 10 (fun _ => 0) := (hf8 _ nx_q2).trans h6_q2
  have h8_x : f8 x = eO 5 fs7 := by rw [ef8]; exact va_up_eq _ _ _
  refine lv_aload_n hx hb dX4_init_25 rfl (lv_at hl 0 rfl) ?_
  refine lv_bipush (v := nI 64) hx hb dX4_init_26 (by decide) ?_
  refine k_newJ hx hb hts u_177 hw 64 (by decide) (by decide) (by decide) dX4_init_28 (fun q3 H hq_q3 hw => ?_)
  obtain ⟨L9, eL9⟩ : ∃ z : List Nat, z = L4 ++ [q3] := ⟨_, rfl⟩
  obtain ⟨f9, ef9⟩ : ∃ z : Nat → va_E, z = va_up f8 q3 (eJ G 64 (fun _ => 0)) := ⟨_, rfl⟩
  rw [← eL9, ← ef9] at hw
  have hm9 : ∀ q ∈ L4, q ∈ L9 := fun q h => by rw [eL9]; exact List.mem_append_left _ h
  have hf9 : ∀ q ∈ L4, True → f9 q = f8 q := fun q h hne => by rw [ef9]; exact va_up_ne _ _ (fun h9 => hq_q3 (by rw [← h9]; exact h))
  have hsub9 : ∀ q ∈ L, q ∈ L9 := fun q h => hm9 q (hsub4 q h)
  have hof9 : ∀ q ∈ L, q ≠ x → f9 q = f q := fun q h hne => (hf9 q (hsub4 q h) trivial).trans (hof8 q h hne)
  have m9_x : x ∈ L9 := hm9 _ m4_x
  have h9_x : f9 x = eO 5 fs7 := (hf9 _ m4_x trivial).trans h8_x
  have m9_q1 : q1 ∈ L9 := hm9 _ m4_q1
  have h9_q1 : f9 q1 = eJ G 10 (fun _ => 0) := (hf9 _ m4_q1 trivial).trans h8_q1
  have m9_q2 : q2 ∈ L9 := hm9 _ mq_q2
  have h9_q2 : f9 q2 = eJ G 10 (fun _ => 0) := (hf9 _ mq_q2 trivial).trans h8_q2
  have mq_q3 : q3 ∈ L9 := by rw [eL9]; exact List.mem_append_right _ (List.mem_singleton.mpr rfl)
  have hv_q3 : f9 q3 = eJ G 64 (fun _ => 0) := by rw [ef9]; exact va_up_eq _ _ _
  have nx_q3 : q3 ≠ x := fun h9 => hq_q3 (by rw [h9]; exact m4_x)
  refine k_putF (own := RX4) (C := RX4) (T := TX4) (N := 5) (ci := 5) (ty := (.array .long)) (v := .ref q3) hx hb hts inX4_u tyX4 tyX4_ok nmX4 hown hw m9_x h9_x rfl 3 (by decide) u_188 rfl rfl hin (by decide +kernel) rfl rfl (by rw [hlen7]; decide) dX4_init_30 (fun H locs hw => ?_)
  obtain ⟨fs10, hz10⟩ : ∃ zz9, zz9 = fs7.set 3 (.ref q3) := ⟨_, rfl⟩
  rw [← hz10] at hw
  have hlen10 : fs10.length = 5 := by rw [hz10, List.length_set]; exact hlen7
  have g10_0 : fs10[0]? = some (.ref q1) := by rw [hz10, List.getElem?_set_ne (by decide)]; exact g7_0
  have g10_1 : fs10[1]? = some (.ref q2) := by rw [hz10, List.getElem?_set_ne (by decide)]; exact g7_1
  have g10_2 : fs10[2]? = some (.int (nI 0)) := by rw [hz10, List.getElem?_set_ne (by decide)]; exact g7_2
  have g10_3 : fs10[3]? = some (.ref q3) := by rw [hz10, List.getElem?_set_self (by rw [hlen7]; decide)]
  obtain ⟨f11, ef11⟩ : ∃ z9 : Nat → va_E, z9 = va_up f9 x (eO 5 fs10) := ⟨_, rfl⟩
  rw [← ef11] at hw
  have eL11 : L9 = L9 := rfl
  have hf11 : ∀ q : Nat, q ≠ x → f11 q = f9 q := fun q hne => by rw [ef11]; exact va_up_ne _ _ hne
  have hof11 : ∀ q ∈ L, q ≠ x → f11 q = f q := fun q h hne => (hf11 q hne).trans (hof9 q h hne)
  have h11_q1 : f11 q1 = eJ G 10 (fun _ => 0) := (hf11 _ nx_q1).trans h9_q1
  have h11_q2 : f11 q2 = eJ G 10 (fun _ => 0) := (hf11 _ nx_q2).trans h9_q2
  have h11_q3 : f11 q3 = eJ G 64 (fun _ => 0) := (hf11 _ nx_q3).trans hv_q3
  have h11_x : f11 x = eO 5 fs10 := by rw [ef11]; exact va_up_eq _ _ _
  refine lv_aload_n hx hb dX4_init_33 rfl (lv_at hl 0 rfl) ?_
  refine lv_bipush (v := nI 64) hx hb dX4_init_34 (by decide) ?_
  refine k_newJ hx hb hts u_177 hw 64 (by decide) (by decide) (by decide) dX4_init_36 (fun q4 H hq_q4 hw => ?_)
  obtain ⟨L12, eL12⟩ : ∃ z : List Nat, z = L9 ++ [q4] := ⟨_, rfl⟩
  obtain ⟨f12, ef12⟩ : ∃ z : Nat → va_E, z = va_up f11 q4 (eJ G 64 (fun _ => 0)) := ⟨_, rfl⟩
  rw [← eL12, ← ef12] at hw
  have hm12 : ∀ q ∈ L9, q ∈ L12 := fun q h => by rw [eL12]; exact List.mem_append_left _ h
  have hf12 : ∀ q ∈ L9, True → f12 q = f11 q := fun q h hne => by rw [ef12]; exact va_up_ne _ _ (fun h9 => hq_q4 (by rw [← h9]; exact h))
  have hsub12 : ∀ q ∈ L, q ∈ L12 := fun q h => hm12 q (hsub9 q h)
  have hof12 : ∀ q ∈ L, q ≠ x → f12 q = f q := fun q h hne => (hf12 q (hsub9 q h) trivial).trans (hof11 q h hne)
  have m12_x : x ∈ L12 := hm12 _ m9_x
  have h12_x : f12 x = eO 5 fs10 := (hf12 _ m9_x trivial).trans h11_x
  have m12_q1 : q1 ∈ L12 := hm12 _ m9_q1
  have h12_q1 : f12 q1 = eJ G 10 (fun _ => 0) := (hf12 _ m9_q1 trivial).trans h11_q1
  have m12_q2 : q2 ∈ L12 := hm12 _ m9_q2
  have h12_q2 : f12 q2 = eJ G 10 (fun _ => 0) := (hf12 _ m9_q2 trivial).trans h11_q2
  have m12_q3 : q3 ∈ L12 := hm12 _ mq_q3
  have h12_q3 : f12 q3 = eJ G 64 (fun _ => 0) := (hf12 _ mq_q3 trivial).trans h11_q3
  have mq_q4 : q4 ∈ L12 := by rw [eL12]; exact List.mem_append_right _ (List.mem_singleton.mpr rfl)
  have hv_q4 : f12 q4 = eJ G 64 (fun _ => 0) := by rw [ef12]; exact va_up_eq _ _ _
  have nx_q4 : q4 ≠ x := fun h9 => hq_q4 (by rw [h9]; exact m9_x)
  refine k_putF (own := RX4) (C := RX4) (T := TX4) (N := 5) (ci := 5) (ty := (.array .long)) (v := .ref q4) hx hb hts inX4_u tyX4 tyX4_ok nmX4 hown hw m12_x h12_x rfl 4 (by decide) u_189 rfl rfl hin (by decide +kernel) rfl rfl (by rw [hlen10]; decide) dX4_init_38 (fun H locs hw => ?_)
  obtain ⟨fs13, hz13⟩ : ∃ zz9, zz9 = fs10.set 4 (.ref q4) := ⟨_, rfl⟩
  rw [← hz13] at hw
  have hlen13 : fs13.length = 5 := by rw [hz13, List.length_set]; exact hlen10
  have g13_0 : fs13[0]? = some (.ref q1) := by rw [hz13, List.getElem?_set_ne (by decide)]; exact g10_0
  have g13_1 : fs13[1]? = some (.ref q2) := by rw [hz13, List.getElem?_set_ne (by decide)]; exact g10_1
  have g13_2 : fs13[2]? = some (.int (nI 0)) := by rw [hz13, List.getElem?_set_ne (by decide)]; exact g10_2
  have g13_3 : fs13[3]? = some (.ref q3) := by rw [hz13, List.getElem?_set_ne (by decide)]; exact g10_3
  have g13_4 : fs13[4]? = some (.ref q4) := by rw [hz13, List.getElem?_set_self (by rw [hlen10]; decide)]
  obtain ⟨f14, ef14⟩ : ∃ z9 : Nat → va_E, z9 = va_up f12 x (eO 5 fs13) := ⟨_, rfl⟩
  rw [← ef14] at hw
  have eL14 : L12 = L12 := rfl
  have hf14 : ∀ q : Nat, q ≠ x → f14 q = f12 q := fun q hne => by rw [ef14]; exact va_up_ne _ _ hne
  have hof14 : ∀ q ∈ L, q ≠ x → f14 q = f q := fun q h hne => (hf14 q hne).trans (hof12 q h hne)
  have h14_q1 : f14 q1 = eJ G 10 (fun _ => 0) := (hf14 _ nx_q1).trans h12_q1
  have h14_q2 : f14 q2 = eJ G 10 (fun _ => 0) := (hf14 _ nx_q2).trans h12_q2
  have h14_q3 : f14 q3 = eJ G 64 (fun _ => 0) := (hf14 _ nx_q3).trans h12_q3
  have h14_q4 : f14 q4 = eJ G 64 (fun _ => 0) := (hf14 _ nx_q4).trans hv_q4
  have h14_x : f14 x = eO 5 fs13 := by rw [ef14]; exact va_up_eq _ _ _
  refine W.widen (k := 4) (n := 148) (by decide) (by decide) ?_
  exact w_vret (lf := fun u => u) hx hb hr hlocks (L12, f14) hw (⟨hsub12, hof14, fs13, h14_x, hlen13⟩) dX4_init_41
set_option maxRecDepth 100000 in
set_option maxHeartbeats 4000000 in
theorem k_X0_init (l : Launch) (G : gG) (L : List Nat) (f : Nat → va_E) (sz : Nat) (a1 : Nat) (a2 : Nat) (x : Nat) (fs : List Value) (hxL : x ∈ L) (hxo : f x = eO 1 fs) (hfl : fs.length = 2) :
    Met l yX0_init (uW yX0_init cX0_init 3 none) { frames := 1, cells := 0, slots := 0, locals := 20 } (wInK G [.ref x, .ref a1, .ref a2] L f sz) (va_Qv (fun (u : List Nat × (Nat → va_E)) => kP L f x 1 2 u) (fun u => wAt G (wA L f sz) u.1 u.2) (wA L f sz)) 0 0 (wA L f sz) := by
  refine kEnter (by decide) (by decide) (Nat.le_of_ble_eq_true rfl) ?_
  intro p e s m below meth c ls cx hin hl hw hk
  obtain ⟨hx, hb, hr, hml, hown, hts, hlocks⟩ := id cx
  have hown : s.vm.findClass RX0 = some m.cls := hown
  have hl : lv_has ls 3 [(0, .ref x), (1, .ref a1), (2, .ref a2)] := hl
  generalize wA L f sz = A at hw ⊢
  have hsub0 : ∀ q ∈ L, q ∈ L := fun _ h => h
  have hof0 : ∀ q ∈ L, q ≠ x → f q = f q := fun _ _ _ => rfl

  refine lv_aload_n hx hb dX0_init_0 rfl (lv_at hl 0 rfl) ?_
  refine W.objInit hx hb hown (hts _ u_190) (hts _ u_173) (hts _ u_174) rfl (by rw [hml]; exact hl.1) rfl dX0_init_1 (Nat.le_of_ble_eq_true rfl) (Nat.le_of_ble_eq_true rfl) ?_
  refine W.eq (g2 := F0 m 4 ls []) rfl ?_
  refine lv_aload_n hx hb dX0_init_4 rfl (lv_at hl 0 rfl) ?_
  refine lv_aload_n hx hb dX0_init_5 rfl (lv_at hl 1 rfl) ?_
  refine k_putF (own := RX0) (C := RX0) (T := TX0) (N := 2) (ci := 1) (ty := (.object "LiftFactors$Field")) (v := .ref a1) hx hb hts inX0_u tyX0 tyX0_ok nmX0 hown hw hxL hxo rfl 0 (by decide) u_191 rfl rfl hin (by decide +kernel) rfl rfl (by rw [hfl]; decide) dX0_init_6 (fun H locs hw => ?_)
  obtain ⟨fs1, hz1⟩ : ∃ zz9, zz9 = fs.set 0 (.ref a1) := ⟨_, rfl⟩
  rw [← hz1] at hw
  have hlen1 : fs1.length = 2 := by rw [hz1, List.length_set]; exact hfl
  have g1_0 : fs1[0]? = some (.ref a1) := by rw [hz1, List.getElem?_set_self (by rw [hfl]; decide)]
  obtain ⟨f2, ef2⟩ : ∃ z9 : Nat → va_E, z9 = va_up f x (eO 1 fs1) := ⟨_, rfl⟩
  rw [← ef2] at hw
  have eL2 : L = L := rfl
  have hf2 : ∀ q : Nat, q ≠ x → f2 q = f q := fun q hne => by rw [ef2]; exact va_up_ne _ _ hne
  have hof2 : ∀ q ∈ L, q ≠ x → f2 q = f q := fun q h hne => (hf2 q hne).trans (hof0 q h hne)
  have h2_x : f2 x = eO 1 fs1 := by rw [ef2]; exact va_up_eq _ _ _
  refine lv_aload_n hx hb dX0_init_9 rfl (lv_at hl 0 rfl) ?_
  refine lv_aload_n hx hb dX0_init_10 rfl (lv_at hl 2 rfl) ?_
  refine k_putF (own := RX0) (C := RX0) (T := TX0) (N := 2) (ci := 1) (ty := (.object "LiftFactors$Divider")) (v := .ref a2) hx hb hts inX0_u tyX0 tyX0_ok nmX0 hown hw hxL h2_x rfl 1 (by decide) u_192 rfl rfl hin (by decide +kernel) rfl rfl (by rw [hlen1]; decide) dX0_init_11 (fun H locs hw => ?_)
  obtain ⟨fs3, hz3⟩ : ∃ zz9, zz9 = fs1.set 1 (.ref a2) := ⟨_, rfl⟩
  rw [← hz3] at hw
  have hlen3 : fs3.length = 2 := by rw [hz3, List.length_set]; exact hlen1
  have g3_0 : fs3[0]? = some (.ref a1) := by rw [hz3, List.getElem?_set_ne (by decide)]; exact g1_0
  have g3_1 : fs3[1]? = some (.ref a2) := by rw [hz3, List.getElem?_set_self (by rw [hlen1]; decide)]
  obtain ⟨f4, ef4⟩ : ∃ z9 : Nat → va_E, z9 = va_up f2 x (eO 1 fs3) := ⟨_, rfl⟩
  rw [← ef4] at hw
  have eL4 : L = L := rfl
  have hf4 : ∀ q : Nat, q ≠ x → f4 q = f2 q := fun q hne => by rw [ef4]; exact va_up_ne _ _ hne
  have hof4 : ∀ q ∈ L, q ≠ x → f4 q = f q := fun q h hne => (hf4 q hne).trans (hof2 q h hne)
  have h4_x : f4 x = eO 1 fs3 := by rw [ef4]; exact va_up_eq _ _ _
  refine W.widen (k := 0) (n := 0) (by decide) (by decide) ?_
  exact w_vret (lf := fun u => u) hx hb hr hlocks (L, f4) hw (⟨hsub0, hof4, fs3, h4_x, hlen3⟩) dX0_init_14
set_option maxRecDepth 100000 in
set_option maxHeartbeats 4000000 in
theorem k_X6_init (l : Launch) (G : gG) (L : List Nat) (f : Nat → va_E) (sz : Nat) (a1 : Nat) (x : Nat) (fs : List Value) (hxL : x ∈ L) (hxo : f x = eO 6 fs) (hfl : fs.length = 9) :
    Met l yX6_init (uW yX6_init cX6_init 2 none) { frames := 1, cells := 36, slots := 392, locals := 20 } (wInK G [.ref x, .ref a1] L f sz) (va_Qv (fun (u : List Nat × (Nat → va_E)) => kP L f x 6 9 u) (fun u => wAt G (wA L f sz) u.1 u.2) (wA L f sz)) 36 392 (wA L f sz) := by
  refine kEnter (by decide) (by decide) (Nat.le_of_ble_eq_true rfl) ?_
  intro p e s m below meth c ls cx hin hl hw hk
  obtain ⟨hx, hb, hr, hml, hown, hts, hlocks⟩ := id cx
  have hown : s.vm.findClass RX6 = some m.cls := hown
  have hl : lv_has ls 2 [(0, .ref x), (1, .ref a1)] := hl
  generalize wA L f sz = A at hw ⊢
  have hsub0 : ∀ q ∈ L, q ∈ L := fun _ h => h
  have hof0 : ∀ q ∈ L, q ≠ x → f q = f q := fun _ _ _ => rfl

  refine lv_aload_n hx hb dX6_init_0 rfl (lv_at hl 0 rfl) ?_
  refine W.objInit hx hb hown (hts _ u_193) (hts _ u_173) (hts _ u_174) rfl (by rw [hml]; exact hl.1) rfl dX6_init_1 (Nat.le_of_ble_eq_true rfl) (Nat.le_of_ble_eq_true rfl) ?_
  refine W.eq (g2 := F0 m 4 ls []) rfl ?_
  refine lv_aload_n hx hb dX6_init_4 rfl (lv_at hl 0 rfl) ?_
  refine lv_bipush (v := nI 10) hx hb dX6_init_5 (by decide) ?_
  refine lv_bipush (v := nI 11) hx hb dX6_init_7 (by decide) ?_
  refine k_mna hx hb hts hown hk .long 1 4 (Or.inr ⟨rfl, rfl, rfl⟩) (11, .inr (.inl (fun _ => 0))) 10 11 (fun _ => by rw [show vp_cell _ (11, .inr (.inl (fun _ => 0))) = arrV _ 11 (fun _ => defaultValue .long) from rfl, ← arrV_new]; rfl) u_194 u_177 hw (by decide) (by decide) (by decide) (by decide) dX6_init_9 (fun q1 rr1 H hq_q1 hr_q1 hw => ?_)
  obtain ⟨L1, eL1⟩ : ∃ z : List Nat, z = q1 :: (L ++ (List.range 10).map rr1) := ⟨_, rfl⟩
  obtain ⟨f1, ef1⟩ : ∃ z : Nat → va_E, z = va_up (vr_up f ((List.range 10).map rr1) (eJ G 11 (fun _ => 0))) q1 (eJJ G 10 (fun i => if i < 10 then some (rr1 i) else none)) := ⟨_, rfl⟩
  rw [← eL1, ← ef1] at hw
  have hnr_q1 : ∀ q ∈ L, q ∉ (List.range 10).map rr1 := fun q h h9 => by
    obtain ⟨i, hi, e9⟩ := List.mem_map.mp h9
    exact (hr_q1 i (List.mem_range.mp hi)).1 (by rw [e9]; exact h)
  have hm1 : ∀ q ∈ L, q ∈ L1 := fun q h => by rw [eL1]; exact List.mem_cons_of_mem _ (List.mem_append_left _ h)
  have hf1 : ∀ q ∈ L, True → f1 q = f q := fun q h hne => by rw [ef1]; exact (va_up_ne _ _ (fun h9 => hq_q1 (by rw [← h9]; exact h))).trans (vr_up_ne (hnr_q1 q h))
  have hsub1 : ∀ q ∈ L, q ∈ L1 := fun q h => hm1 q (hsub0 q h)
  have hof1 : ∀ q ∈ L, q ≠ x → f1 q = f q := fun q h hne => (hf1 q (hsub0 q h) trivial).trans (hof0 q h hne)
  have m1_x : x ∈ L1 := hm1 _ hxL
  have h1_x : f1 x = eO 6 fs := (hf1 _ hxL trivial).trans hxo
  have mq_q1 : q1 ∈ L1 := by rw [eL1]; exact List.mem_cons_self
  have hv_q1 : f1 q1 = eJJ G 10 (fun i => if i < 10 then some (rr1 i) else none) := by rw [ef1]; exact va_up_eq _ _ _
  have nx_q1 : q1 ≠ x := fun h9 => hq_q1 (by rw [h9]; exact hxL)
  refine k_putF (own := RX6) (C := RX6) (T := TX6) (N := 9) (ci := 6) (ty := (.array (.array .long))) (v := .ref q1) hx hb hts inX6_u tyX6 tyX6_ok nmX6 hown hw m1_x h1_x rfl 0 (by decide) u_195 rfl rfl hin (by decide +kernel) rfl rfl (by rw [hfl]; decide) dX6_init_13 (fun H locs hw => ?_)
  obtain ⟨fs2, hz2⟩ : ∃ zz9, zz9 = fs.set 0 (.ref q1) := ⟨_, rfl⟩
  rw [← hz2] at hw
  have hlen2 : fs2.length = 9 := by rw [hz2, List.length_set]; exact hfl
  have g2_0 : fs2[0]? = some (.ref q1) := by rw [hz2, List.getElem?_set_self (by rw [hfl]; decide)]
  obtain ⟨f3, ef3⟩ : ∃ z9 : Nat → va_E, z9 = va_up f1 x (eO 6 fs2) := ⟨_, rfl⟩
  rw [← ef3] at hw
  have eL3 : L1 = L1 := rfl
  have hf3 : ∀ q : Nat, q ≠ x → f3 q = f1 q := fun q hne => by rw [ef3]; exact va_up_ne _ _ hne
  have hof3 : ∀ q ∈ L, q ≠ x → f3 q = f q := fun q h hne => (hf3 q hne).trans (hof1 q h hne)
  have h3_q1 : f3 q1 = eJJ G 10 (fun i => if i < 10 then some (rr1 i) else none) := (hf3 _ nx_q1).trans hv_q1
  have h3_x : f3 x = eO 6 fs2 := by rw [ef3]; exact va_up_eq _ _ _
  refine lv_aload_n hx hb dX6_init_16 rfl (lv_at hl 0 rfl) ?_
  refine lv_iconst (v := nI 0) hx hb dX6_init_17 (by decide) ?_
  refine w_put (C := RX6) (T := TX6) (N := 9) (ci := 6) (ref := "LiftFactors$Splitter") (ty := .int) (v := .int (nI 0)) hx hb hts inX6_u tyX6 tyX6_ok nmX6 hown hw m1_x h3_x rfl 1 (by decide) u_196 rfl rfl (by decide +kernel) rfl rfl (by rw [hlen2]; decide) dX6_init_18 (fun H locs hw => ?_)
  obtain ⟨fs4, hz4⟩ : ∃ zz9, zz9 = fs2.set 1 (.int (nI 0)) := ⟨_, rfl⟩
  rw [← hz4] at hw
  have hlen4 : fs4.length = 9 := by rw [hz4, List.length_set]; exact hlen2
  have g4_0 : fs4[0]? = some (.ref q1) := by rw [hz4, List.getElem?_set_ne (by decide)]; exact g2_0
  have g4_1 : fs4[1]? = some (.int (nI 0)) := by rw [hz4, List.getElem?_set_self (by rw [hlen2]; decide)]
  obtain ⟨f5, ef5⟩ : ∃ z9 : Nat → va_E, z9 = va_up f3 x (eO 6 fs4) := ⟨_, rfl⟩
  rw [← ef5] at hw
  have eL5 : L1 = L1 := rfl
  have hf5 : ∀ q : Nat, q ≠ x → f5 q = f3 q := fun q hne => by rw [ef5]; exact va_up_ne _ _ hne
  have hof5 : ∀ q ∈ L, q ≠ x → f5 q = f q := fun q h hne => (hf5 q hne).trans (hof3 q h hne)
  have h5_q1 : f5 q1 = eJJ G 10 (fun i => if i < 10 then some (rr1 i) else none) := (hf5 _ nx_q1).trans h3_q1
  have h5_x : f5 x = eO 6 fs4 := by rw [ef5]; exact va_up_eq _ _ _
  refine lv_aload_n hx hb dX6_init_21 rfl (lv_at hl 0 rfl) ?_
  refine lv_iconst (v := nI 0) hx hb dX6_init_22 (by decide) ?_
  refine w_put (C := RX6) (T := TX6) (N := 9) (ci := 6) (ref := "LiftFactors$Splitter") (ty := .int) (v := .int (nI 0)) hx hb hts inX6_u tyX6 tyX6_ok nmX6 hown hw m1_x h5_x rfl 2 (by decide) u_197 rfl rfl (by decide +kernel) rfl rfl (by rw [hlen4]; decide) dX6_init_23 (fun H locs hw => ?_)
  obtain ⟨fs6, hz6⟩ : ∃ zz9, zz9 = fs4.set 2 (.int (nI 0)) := ⟨_, rfl⟩
  rw [← hz6] at hw
  have hlen6 : fs6.length = 9 := by rw [hz6, List.length_set]; exact hlen4
  have g6_0 : fs6[0]? = some (.ref q1) := by rw [hz6, List.getElem?_set_ne (by decide)]; exact g4_0
  have g6_1 : fs6[1]? = some (.int (nI 0)) := by rw [hz6, List.getElem?_set_ne (by decide)]; exact g4_1
  have g6_2 : fs6[2]? = some (.int (nI 0)) := by rw [hz6, List.getElem?_set_self (by rw [hlen4]; decide)]
  obtain ⟨f7, ef7⟩ : ∃ z9 : Nat → va_E, z9 = va_up f5 x (eO 6 fs6) := ⟨_, rfl⟩
  rw [← ef7] at hw
  have eL7 : L1 = L1 := rfl
  have hf7 : ∀ q : Nat, q ≠ x → f7 q = f5 q := fun q hne => by rw [ef7]; exact va_up_ne _ _ hne
  have hof7 : ∀ q ∈ L, q ≠ x → f7 q = f q := fun q h hne => (hf7 q hne).trans (hof5 q h hne)
  have h7_q1 : f7 q1 = eJJ G 10 (fun i => if i < 10 then some (rr1 i) else none) := (hf7 _ nx_q1).trans h5_q1
  have h7_x : f7 x = eO 6 fs6 := by rw [ef7]; exact va_up_eq _ _ _
  refine lv_aload_n hx hb dX6_init_26 rfl (lv_at hl 0 rfl) ?_
  refine lv_bipush (v := nI 10) hx hb dX6_init_27 (by decide) ?_
  refine lv_bipush (v := nI 11) hx hb dX6_init_29 (by decide) ?_
  refine k_mna hx hb hts hown hk .long 1 4 (Or.inr ⟨rfl, rfl, rfl⟩) (11, .inr (.inl (fun _ => 0))) 10 11 (fun _ => by rw [show vp_cell _ (11, .inr (.inl (fun _ => 0))) = arrV _ 11 (fun _ => defaultValue .long) from rfl, ← arrV_new]; rfl) u_194 u_177 hw (by decide) (by decide) (by decide) (by decide) dX6_init_31 (fun q2 rr2 H hq_q2 hr_q2 hw => ?_)
  obtain ⟨L8, eL8⟩ : ∃ z : List Nat, z = q2 :: (L1 ++ (List.range 10).map rr2) := ⟨_, rfl⟩
  obtain ⟨f8, ef8⟩ : ∃ z : Nat → va_E, z = va_up (vr_up f7 ((List.range 10).map rr2) (eJ G 11 (fun _ => 0))) q2 (eJJ G 10 (fun i => if i < 10 then some (rr2 i) else none)) := ⟨_, rfl⟩
  rw [← eL8, ← ef8] at hw
  have hnr_q2 : ∀ q ∈ L1, q ∉ (List.range 10).map rr2 := fun q h h9 => by
    obtain ⟨i, hi, e9⟩ := List.mem_map.mp h9
    exact (hr_q2 i (List.mem_range.mp hi)).1 (by rw [e9]; exact h)
  have hm8 : ∀ q ∈ L1, q ∈ L8 := fun q h => by rw [eL8]; exact List.mem_cons_of_mem _ (List.mem_append_left _ h)
  have hf8 : ∀ q ∈ L1, True → f8 q = f7 q := fun q h hne => by rw [ef8]; exact (va_up_ne _ _ (fun h9 => hq_q2 (by rw [← h9]; exact h))).trans (vr_up_ne (hnr_q2 q h))
  have hsub8 : ∀ q ∈ L, q ∈ L8 := fun q h => hm8 q (hsub1 q h)
  have hof8 : ∀ q ∈ L, q ≠ x → f8 q = f q := fun q h hne => (hf8 q (hsub1 q h) trivial).trans (hof7 q h hne)
  have m8_x : x ∈ L8 := hm8 _ m1_x
  have h8_x : f8 x = eO 6 fs6 := (hf8 _ m1_x trivial).trans h7_x
  have m8_q1 : q1 ∈ L8 := hm8 _ mq_q1
  have h8_q1 : f8 q1 = eJJ G 10 (fun i => if i < 10 then some (rr1 i) else none) := (hf8 _ mq_q1 trivial).trans h7_q1
  have mq_q2 : q2 ∈ L8 := by rw [eL8]; exact List.mem_cons_self
  have hv_q2 : f8 q2 = eJJ G 10 (fun i => if i < 10 then some (rr2 i) else none) := by rw [ef8]; exact va_up_eq _ _ _
  have nx_q2 : q2 ≠ x := fun h9 => hq_q2 (by rw [h9]; exact m1_x)
  refine k_putF (own := RX6) (C := RX6) (T := TX6) (N := 9) (ci := 6) (ty := (.array (.array .long))) (v := .ref q2) hx hb hts inX6_u tyX6 tyX6_ok nmX6 hown hw m8_x h8_x rfl 4 (by decide) u_198 rfl rfl hin (by decide +kernel) rfl rfl (by rw [hlen6]; decide) dX6_init_35 (fun H locs hw => ?_)
  obtain ⟨fs9, hz9⟩ : ∃ zz9, zz9 = fs6.set 4 (.ref q2) := ⟨_, rfl⟩
  rw [← hz9] at hw
  have hlen9 : fs9.length = 9 := by rw [hz9, List.length_set]; exact hlen6
  have g9_0 : fs9[0]? = some (.ref q1) := by rw [hz9, List.getElem?_set_ne (by decide)]; exact g6_0
  have g9_1 : fs9[1]? = some (.int (nI 0)) := by rw [hz9, List.getElem?_set_ne (by decide)]; exact g6_1
  have g9_2 : fs9[2]? = some (.int (nI 0)) := by rw [hz9, List.getElem?_set_ne (by decide)]; exact g6_2
  have g9_4 : fs9[4]? = some (.ref q2) := by rw [hz9, List.getElem?_set_self (by rw [hlen6]; decide)]
  obtain ⟨f10, ef10⟩ : ∃ z9 : Nat → va_E, z9 = va_up f8 x (eO 6 fs9) := ⟨_, rfl⟩
  rw [← ef10] at hw
  have eL10 : L8 = L8 := rfl
  have hf10 : ∀ q : Nat, q ≠ x → f10 q = f8 q := fun q hne => by rw [ef10]; exact va_up_ne _ _ hne
  have hof10 : ∀ q ∈ L, q ≠ x → f10 q = f q := fun q h hne => (hf10 q hne).trans (hof8 q h hne)
  have h10_q1 : f10 q1 = eJJ G 10 (fun i => if i < 10 then some (rr1 i) else none) := (hf10 _ nx_q1).trans h8_q1
  have h10_q2 : f10 q2 = eJJ G 10 (fun i => if i < 10 then some (rr2 i) else none) := (hf10 _ nx_q2).trans hv_q2
  have h10_x : f10 x = eO 6 fs9 := by rw [ef10]; exact va_up_eq _ _ _
  refine lv_aload_n hx hb dX6_init_38 rfl (lv_at hl 0 rfl) ?_
  refine lv_bipush (v := nI 10) hx hb dX6_init_39 (by decide) ?_
  refine lv_bipush (v := nI 11) hx hb dX6_init_41 (by decide) ?_
  refine k_mna hx hb hts hown hk .long 1 4 (Or.inr ⟨rfl, rfl, rfl⟩) (11, .inr (.inl (fun _ => 0))) 10 11 (fun _ => by rw [show vp_cell _ (11, .inr (.inl (fun _ => 0))) = arrV _ 11 (fun _ => defaultValue .long) from rfl, ← arrV_new]; rfl) u_194 u_177 hw (by decide) (by decide) (by decide) (by decide) dX6_init_43 (fun q3 rr3 H hq_q3 hr_q3 hw => ?_)
  obtain ⟨L11, eL11⟩ : ∃ z : List Nat, z = q3 :: (L8 ++ (List.range 10).map rr3) := ⟨_, rfl⟩
  obtain ⟨f11, ef11⟩ : ∃ z : Nat → va_E, z = va_up (vr_up f10 ((List.range 10).map rr3) (eJ G 11 (fun _ => 0))) q3 (eJJ G 10 (fun i => if i < 10 then some (rr3 i) else none)) := ⟨_, rfl⟩
  rw [← eL11, ← ef11] at hw
  have hnr_q3 : ∀ q ∈ L8, q ∉ (List.range 10).map rr3 := fun q h h9 => by
    obtain ⟨i, hi, e9⟩ := List.mem_map.mp h9
    exact (hr_q3 i (List.mem_range.mp hi)).1 (by rw [e9]; exact h)
  have hm11 : ∀ q ∈ L8, q ∈ L11 := fun q h => by rw [eL11]; exact List.mem_cons_of_mem _ (List.mem_append_left _ h)
  have hf11 : ∀ q ∈ L8, True → f11 q = f10 q := fun q h hne => by rw [ef11]; exact (va_up_ne _ _ (fun h9 => hq_q3 (by rw [← h9]; exact h))).trans (vr_up_ne (hnr_q3 q h))
  have hsub11 : ∀ q ∈ L, q ∈ L11 := fun q h => hm11 q (hsub8 q h)
  have hof11 : ∀ q ∈ L, q ≠ x → f11 q = f q := fun q h hne => (hf11 q (hsub8 q h) trivial).trans (hof10 q h hne)
  have m11_x : x ∈ L11 := hm11 _ m8_x
  have h11_x : f11 x = eO 6 fs9 := (hf11 _ m8_x trivial).trans h10_x
  have m11_q1 : q1 ∈ L11 := hm11 _ m8_q1
  have h11_q1 : f11 q1 = eJJ G 10 (fun i => if i < 10 then some (rr1 i) else none) := (hf11 _ m8_q1 trivial).trans h10_q1
  have m11_q2 : q2 ∈ L11 := hm11 _ mq_q2
  have h11_q2 : f11 q2 = eJJ G 10 (fun i => if i < 10 then some (rr2 i) else none) := (hf11 _ mq_q2 trivial).trans h10_q2
  have mq_q3 : q3 ∈ L11 := by rw [eL11]; exact List.mem_cons_self
  have hv_q3 : f11 q3 = eJJ G 10 (fun i => if i < 10 then some (rr3 i) else none) := by rw [ef11]; exact va_up_eq _ _ _
  have nx_q3 : q3 ≠ x := fun h9 => hq_q3 (by rw [h9]; exact m8_x)
  refine k_putF (own := RX6) (C := RX6) (T := TX6) (N := 9) (ci := 6) (ty := (.array (.array .long))) (v := .ref q3) hx hb hts inX6_u tyX6 tyX6_ok nmX6 hown hw m11_x h11_x rfl 5 (by decide) u_199 rfl rfl hin (by decide +kernel) rfl rfl (by rw [hlen9]; decide) dX6_init_47 (fun H locs hw => ?_)
  obtain ⟨fs12, hz12⟩ : ∃ zz9, zz9 = fs9.set 5 (.ref q3) := ⟨_, rfl⟩
  rw [← hz12] at hw
  have hlen12 : fs12.length = 9 := by rw [hz12, List.length_set]; exact hlen9
  have g12_0 : fs12[0]? = some (.ref q1) := by rw [hz12, List.getElem?_set_ne (by decide)]; exact g9_0
  have g12_1 : fs12[1]? = some (.int (nI 0)) := by rw [hz12, List.getElem?_set_ne (by decide)]; exact g9_1
  have g12_2 : fs12[2]? = some (.int (nI 0)) := by rw [hz12, List.getElem?_set_ne (by decide)]; exact g9_2
  have g12_4 : fs12[4]? = some (.ref q2) := by rw [hz12, List.getElem?_set_ne (by decide)]; exact g9_4
  have g12_5 : fs12[5]? = some (.ref q3) := by rw [hz12, List.getElem?_set_self (by rw [hlen9]; decide)]
  obtain ⟨f13, ef13⟩ : ∃ z9 : Nat → va_E, z9 = va_up f11 x (eO 6 fs12) := ⟨_, rfl⟩
  rw [← ef13] at hw
  have eL13 : L11 = L11 := rfl
  have hf13 : ∀ q : Nat, q ≠ x → f13 q = f11 q := fun q hne => by rw [ef13]; exact va_up_ne _ _ hne
  have hof13 : ∀ q ∈ L, q ≠ x → f13 q = f q := fun q h hne => (hf13 q hne).trans (hof11 q h hne)
  have h13_q1 : f13 q1 = eJJ G 10 (fun i => if i < 10 then some (rr1 i) else none) := (hf13 _ nx_q1).trans h11_q1
  have h13_q2 : f13 q2 = eJJ G 10 (fun i => if i < 10 then some (rr2 i) else none) := (hf13 _ nx_q2).trans h11_q2
  have h13_q3 : f13 q3 = eJJ G 10 (fun i => if i < 10 then some (rr3 i) else none) := (hf13 _ nx_q3).trans hv_q3
  have h13_x : f13 x = eO 6 fs12 := by rw [ef13]; exact va_up_eq _ _ _
  refine lv_aload_n hx hb dX6_init_50 rfl (lv_at hl 0 rfl) ?_
  refine lv_bipush (v := nI 10) hx hb dX6_init_51 (by decide) ?_
  refine k_newI hx hb hts u_200 hw 10 (by decide) (by decide) (by decide) dX6_init_53 (fun q4 H hq_q4 hw => ?_)
  obtain ⟨L14, eL14⟩ : ∃ z : List Nat, z = L11 ++ [q4] := ⟨_, rfl⟩
  obtain ⟨f14, ef14⟩ : ∃ z : Nat → va_E, z = va_up f13 q4 (eI G 10 (fun _ => 0)) := ⟨_, rfl⟩
  rw [← eL14, ← ef14] at hw
  have hm14 : ∀ q ∈ L11, q ∈ L14 := fun q h => by rw [eL14]; exact List.mem_append_left _ h
  have hf14 : ∀ q ∈ L11, True → f14 q = f13 q := fun q h hne => by rw [ef14]; exact va_up_ne _ _ (fun h9 => hq_q4 (by rw [← h9]; exact h))
  have hsub14 : ∀ q ∈ L, q ∈ L14 := fun q h => hm14 q (hsub11 q h)
  have hof14 : ∀ q ∈ L, q ≠ x → f14 q = f q := fun q h hne => (hf14 q (hsub11 q h) trivial).trans (hof13 q h hne)
  have m14_x : x ∈ L14 := hm14 _ m11_x
  have h14_x : f14 x = eO 6 fs12 := (hf14 _ m11_x trivial).trans h13_x
  have m14_q1 : q1 ∈ L14 := hm14 _ m11_q1
  have h14_q1 : f14 q1 = eJJ G 10 (fun i => if i < 10 then some (rr1 i) else none) := (hf14 _ m11_q1 trivial).trans h13_q1
  have m14_q2 : q2 ∈ L14 := hm14 _ m11_q2
  have h14_q2 : f14 q2 = eJJ G 10 (fun i => if i < 10 then some (rr2 i) else none) := (hf14 _ m11_q2 trivial).trans h13_q2
  have m14_q3 : q3 ∈ L14 := hm14 _ mq_q3
  have h14_q3 : f14 q3 = eJJ G 10 (fun i => if i < 10 then some (rr3 i) else none) := (hf14 _ mq_q3 trivial).trans h13_q3
  have mq_q4 : q4 ∈ L14 := by rw [eL14]; exact List.mem_append_right _ (List.mem_singleton.mpr rfl)
  have hv_q4 : f14 q4 = eI G 10 (fun _ => 0) := by rw [ef14]; exact va_up_eq _ _ _
  have nx_q4 : q4 ≠ x := fun h9 => hq_q4 (by rw [h9]; exact m11_x)
  refine k_putF (own := RX6) (C := RX6) (T := TX6) (N := 9) (ci := 6) (ty := (.array .int)) (v := .ref q4) hx hb hts inX6_u tyX6 tyX6_ok nmX6 hown hw m14_x h14_x rfl 6 (by decide) u_201 rfl rfl hin (by decide +kernel) rfl rfl (by rw [hlen12]; decide) dX6_init_55 (fun H locs hw => ?_)
  obtain ⟨fs15, hz15⟩ : ∃ zz9, zz9 = fs12.set 6 (.ref q4) := ⟨_, rfl⟩
  rw [← hz15] at hw
  have hlen15 : fs15.length = 9 := by rw [hz15, List.length_set]; exact hlen12
  have g15_0 : fs15[0]? = some (.ref q1) := by rw [hz15, List.getElem?_set_ne (by decide)]; exact g12_0
  have g15_1 : fs15[1]? = some (.int (nI 0)) := by rw [hz15, List.getElem?_set_ne (by decide)]; exact g12_1
  have g15_2 : fs15[2]? = some (.int (nI 0)) := by rw [hz15, List.getElem?_set_ne (by decide)]; exact g12_2
  have g15_4 : fs15[4]? = some (.ref q2) := by rw [hz15, List.getElem?_set_ne (by decide)]; exact g12_4
  have g15_5 : fs15[5]? = some (.ref q3) := by rw [hz15, List.getElem?_set_ne (by decide)]; exact g12_5
  have g15_6 : fs15[6]? = some (.ref q4) := by rw [hz15, List.getElem?_set_self (by rw [hlen12]; decide)]
  obtain ⟨f16, ef16⟩ : ∃ z9 : Nat → va_E, z9 = va_up f14 x (eO 6 fs15) := ⟨_, rfl⟩
  rw [← ef16] at hw
  have eL16 : L14 = L14 := rfl
  have hf16 : ∀ q : Nat, q ≠ x → f16 q = f14 q := fun q hne => by rw [ef16]; exact va_up_ne _ _ hne
  have hof16 : ∀ q ∈ L, q ≠ x → f16 q = f q := fun q h hne => (hf16 q hne).trans (hof14 q h hne)
  have h16_q1 : f16 q1 = eJJ G 10 (fun i => if i < 10 then some (rr1 i) else none) := (hf16 _ nx_q1).trans h14_q1
  have h16_q2 : f16 q2 = eJJ G 10 (fun i => if i < 10 then some (rr2 i) else none) := (hf16 _ nx_q2).trans h14_q2
  have h16_q3 : f16 q3 = eJJ G 10 (fun i => if i < 10 then some (rr3 i) else none) := (hf16 _ nx_q3).trans h14_q3
  have h16_q4 : f16 q4 = eI G 10 (fun _ => 0) := (hf16 _ nx_q4).trans hv_q4
  have h16_x : f16 x = eO 6 fs15 := by rw [ef16]; exact va_up_eq _ _ _
  refine lv_aload_n hx hb dX6_init_58 rfl (lv_at hl 0 rfl) ?_
  refine lv_bipush (v := nI 11) hx hb dX6_init_59 (by decide) ?_
  refine k_newJ hx hb hts u_177 hw 11 (by decide) (by decide) (by decide) dX6_init_61 (fun q5 H hq_q5 hw => ?_)
  obtain ⟨L17, eL17⟩ : ∃ z : List Nat, z = L14 ++ [q5] := ⟨_, rfl⟩
  obtain ⟨f17, ef17⟩ : ∃ z : Nat → va_E, z = va_up f16 q5 (eJ G 11 (fun _ => 0)) := ⟨_, rfl⟩
  rw [← eL17, ← ef17] at hw
  have hm17 : ∀ q ∈ L14, q ∈ L17 := fun q h => by rw [eL17]; exact List.mem_append_left _ h
  have hf17 : ∀ q ∈ L14, True → f17 q = f16 q := fun q h hne => by rw [ef17]; exact va_up_ne _ _ (fun h9 => hq_q5 (by rw [← h9]; exact h))
  have hsub17 : ∀ q ∈ L, q ∈ L17 := fun q h => hm17 q (hsub14 q h)
  have hof17 : ∀ q ∈ L, q ≠ x → f17 q = f q := fun q h hne => (hf17 q (hsub14 q h) trivial).trans (hof16 q h hne)
  have m17_x : x ∈ L17 := hm17 _ m14_x
  have h17_x : f17 x = eO 6 fs15 := (hf17 _ m14_x trivial).trans h16_x
  have m17_q1 : q1 ∈ L17 := hm17 _ m14_q1
  have h17_q1 : f17 q1 = eJJ G 10 (fun i => if i < 10 then some (rr1 i) else none) := (hf17 _ m14_q1 trivial).trans h16_q1
  have m17_q2 : q2 ∈ L17 := hm17 _ m14_q2
  have h17_q2 : f17 q2 = eJJ G 10 (fun i => if i < 10 then some (rr2 i) else none) := (hf17 _ m14_q2 trivial).trans h16_q2
  have m17_q3 : q3 ∈ L17 := hm17 _ m14_q3
  have h17_q3 : f17 q3 = eJJ G 10 (fun i => if i < 10 then some (rr3 i) else none) := (hf17 _ m14_q3 trivial).trans h16_q3
  have m17_q4 : q4 ∈ L17 := hm17 _ mq_q4
  have h17_q4 : f17 q4 = eI G 10 (fun _ => 0) := (hf17 _ mq_q4 trivial).trans h16_q4
  have mq_q5 : q5 ∈ L17 := by rw [eL17]; exact List.mem_append_right _ (List.mem_singleton.mpr rfl)
  have hv_q5 : f17 q5 = eJ G 11 (fun _ => 0) := by rw [ef17]; exact va_up_eq _ _ _
  have nx_q5 : q5 ≠ x := fun h9 => hq_q5 (by rw [h9]; exact m14_x)
  refine k_putF (own := RX6) (C := RX6) (T := TX6) (N := 9) (ci := 6) (ty := (.array .long)) (v := .ref q5) hx hb hts inX6_u tyX6 tyX6_ok nmX6 hown hw m17_x h17_x rfl 7 (by decide) u_202 rfl rfl hin (by decide +kernel) rfl rfl (by rw [hlen15]; decide) dX6_init_63 (fun H locs hw => ?_)
  obtain ⟨fs18, hz18⟩ : ∃ zz9, zz9 = fs15.set 7 (.ref q5) := ⟨_, rfl⟩
  rw [← hz18] at hw
  have hlen18 : fs18.length = 9 := by rw [hz18, List.length_set]; exact hlen15
  have g18_0 : fs18[0]? = some (.ref q1) := by rw [hz18, List.getElem?_set_ne (by decide)]; exact g15_0
  have g18_1 : fs18[1]? = some (.int (nI 0)) := by rw [hz18, List.getElem?_set_ne (by decide)]; exact g15_1
  have g18_2 : fs18[2]? = some (.int (nI 0)) := by rw [hz18, List.getElem?_set_ne (by decide)]; exact g15_2
  have g18_4 : fs18[4]? = some (.ref q2) := by rw [hz18, List.getElem?_set_ne (by decide)]; exact g15_4
  have g18_5 : fs18[5]? = some (.ref q3) := by rw [hz18, List.getElem?_set_ne (by decide)]; exact g15_5
  have g18_6 : fs18[6]? = some (.ref q4) := by rw [hz18, List.getElem?_set_ne (by decide)]; exact g15_6
  have g18_7 : fs18[7]? = some (.ref q5) := by rw [hz18, List.getElem?_set_self (by rw [hlen15]; decide)]
  obtain ⟨f19, ef19⟩ : ∃ z9 : Nat → va_E, z9 = va_up f17 x (eO 6 fs18) := ⟨_, rfl⟩
  rw [← ef19] at hw
  have eL19 : L17 = L17 := rfl
  have hf19 : ∀ q : Nat, q ≠ x → f19 q = f17 q := fun q hne => by rw [ef19]; exact va_up_ne _ _ hne
  have hof19 : ∀ q ∈ L, q ≠ x → f19 q = f q := fun q h hne => (hf19 q hne).trans (hof17 q h hne)
  have h19_q1 : f19 q1 = eJJ G 10 (fun i => if i < 10 then some (rr1 i) else none) := (hf19 _ nx_q1).trans h17_q1
  have h19_q2 : f19 q2 = eJJ G 10 (fun i => if i < 10 then some (rr2 i) else none) := (hf19 _ nx_q2).trans h17_q2
  have h19_q3 : f19 q3 = eJJ G 10 (fun i => if i < 10 then some (rr3 i) else none) := (hf19 _ nx_q3).trans h17_q3
  have h19_q4 : f19 q4 = eI G 10 (fun _ => 0) := (hf19 _ nx_q4).trans h17_q4
  have h19_q5 : f19 q5 = eJ G 11 (fun _ => 0) := (hf19 _ nx_q5).trans hv_q5
  have h19_x : f19 x = eO 6 fs18 := by rw [ef19]; exact va_up_eq _ _ _
  refine lv_aload_n hx hb dX6_init_66 rfl (lv_at hl 0 rfl) ?_
  refine lv_bipush (v := nI 11) hx hb dX6_init_67 (by decide) ?_
  refine k_newJ hx hb hts u_177 hw 11 (by decide) (by decide) (by decide) dX6_init_69 (fun q6 H hq_q6 hw => ?_)
  obtain ⟨L20, eL20⟩ : ∃ z : List Nat, z = L17 ++ [q6] := ⟨_, rfl⟩
  obtain ⟨f20, ef20⟩ : ∃ z : Nat → va_E, z = va_up f19 q6 (eJ G 11 (fun _ => 0)) := ⟨_, rfl⟩
  rw [← eL20, ← ef20] at hw
  have hm20 : ∀ q ∈ L17, q ∈ L20 := fun q h => by rw [eL20]; exact List.mem_append_left _ h
  have hf20 : ∀ q ∈ L17, True → f20 q = f19 q := fun q h hne => by rw [ef20]; exact va_up_ne _ _ (fun h9 => hq_q6 (by rw [← h9]; exact h))
  have hsub20 : ∀ q ∈ L, q ∈ L20 := fun q h => hm20 q (hsub17 q h)
  have hof20 : ∀ q ∈ L, q ≠ x → f20 q = f q := fun q h hne => (hf20 q (hsub17 q h) trivial).trans (hof19 q h hne)
  have m20_x : x ∈ L20 := hm20 _ m17_x
  have h20_x : f20 x = eO 6 fs18 := (hf20 _ m17_x trivial).trans h19_x
  have m20_q1 : q1 ∈ L20 := hm20 _ m17_q1
  have h20_q1 : f20 q1 = eJJ G 10 (fun i => if i < 10 then some (rr1 i) else none) := (hf20 _ m17_q1 trivial).trans h19_q1
  have m20_q2 : q2 ∈ L20 := hm20 _ m17_q2
  have h20_q2 : f20 q2 = eJJ G 10 (fun i => if i < 10 then some (rr2 i) else none) := (hf20 _ m17_q2 trivial).trans h19_q2
  have m20_q3 : q3 ∈ L20 := hm20 _ m17_q3
  have h20_q3 : f20 q3 = eJJ G 10 (fun i => if i < 10 then some (rr3 i) else none) := (hf20 _ m17_q3 trivial).trans h19_q3
  have m20_q4 : q4 ∈ L20 := hm20 _ m17_q4
  have h20_q4 : f20 q4 = eI G 10 (fun _ => 0) := (hf20 _ m17_q4 trivial).trans h19_q4
  have m20_q5 : q5 ∈ L20 := hm20 _ mq_q5
  have h20_q5 : f20 q5 = eJ G 11 (fun _ => 0) := (hf20 _ mq_q5 trivial).trans h19_q5
  have mq_q6 : q6 ∈ L20 := by rw [eL20]; exact List.mem_append_right _ (List.mem_singleton.mpr rfl)
  have hv_q6 : f20 q6 = eJ G 11 (fun _ => 0) := by rw [ef20]; exact va_up_eq _ _ _
  have nx_q6 : q6 ≠ x := fun h9 => hq_q6 (by rw [h9]; exact m17_x)
  refine k_putF (own := RX6) (C := RX6) (T := TX6) (N := 9) (ci := 6) (ty := (.array .long)) (v := .ref q6) hx hb hts inX6_u tyX6 tyX6_ok nmX6 hown hw m20_x h20_x rfl 8 (by decide) u_203 rfl rfl hin (by decide +kernel) rfl rfl (by rw [hlen18]; decide) dX6_init_71 (fun H locs hw => ?_)
  obtain ⟨fs21, hz21⟩ : ∃ zz9, zz9 = fs18.set 8 (.ref q6) := ⟨_, rfl⟩
  rw [← hz21] at hw
  have hlen21 : fs21.length = 9 := by rw [hz21, List.length_set]; exact hlen18
  have g21_0 : fs21[0]? = some (.ref q1) := by rw [hz21, List.getElem?_set_ne (by decide)]; exact g18_0
  have g21_1 : fs21[1]? = some (.int (nI 0)) := by rw [hz21, List.getElem?_set_ne (by decide)]; exact g18_1
  have g21_2 : fs21[2]? = some (.int (nI 0)) := by rw [hz21, List.getElem?_set_ne (by decide)]; exact g18_2
  have g21_4 : fs21[4]? = some (.ref q2) := by rw [hz21, List.getElem?_set_ne (by decide)]; exact g18_4
  have g21_5 : fs21[5]? = some (.ref q3) := by rw [hz21, List.getElem?_set_ne (by decide)]; exact g18_5
  have g21_6 : fs21[6]? = some (.ref q4) := by rw [hz21, List.getElem?_set_ne (by decide)]; exact g18_6
  have g21_7 : fs21[7]? = some (.ref q5) := by rw [hz21, List.getElem?_set_ne (by decide)]; exact g18_7
  have g21_8 : fs21[8]? = some (.ref q6) := by rw [hz21, List.getElem?_set_self (by rw [hlen18]; decide)]
  obtain ⟨f22, ef22⟩ : ∃ z9 : Nat → va_E, z9 = va_up f20 x (eO 6 fs21) := ⟨_, rfl⟩
  rw [← ef22] at hw
  have eL22 : L20 = L20 := rfl
  have hf22 : ∀ q : Nat, q ≠ x → f22 q = f20 q := fun q hne => by rw [ef22]; exact va_up_ne _ _ hne
  have hof22 : ∀ q ∈ L, q ≠ x → f22 q = f q := fun q h hne => (hf22 q hne).trans (hof20 q h hne)
  have h22_q1 : f22 q1 = eJJ G 10 (fun i => if i < 10 then some (rr1 i) else none) := (hf22 _ nx_q1).trans h20_q1
  have h22_q2 : f22 q2 = eJJ G 10 (fun i => if i < 10 then some (rr2 i) else none) := (hf22 _ nx_q2).trans h20_q2
  have h22_q3 : f22 q3 = eJJ G 10 (fun i => if i < 10 then some (rr3 i) else none) := (hf22 _ nx_q3).trans h20_q3
  have h22_q4 : f22 q4 = eI G 10 (fun _ => 0) := (hf22 _ nx_q4).trans h20_q4
  have h22_q5 : f22 q5 = eJ G 11 (fun _ => 0) := (hf22 _ nx_q5).trans h20_q5
  have h22_q6 : f22 q6 = eJ G 11 (fun _ => 0) := (hf22 _ nx_q6).trans hv_q6
  have h22_x : f22 x = eO 6 fs21 := by rw [ef22]; exact va_up_eq _ _ _
  refine lv_aload_n hx hb dX6_init_74 rfl (lv_at hl 0 rfl) ?_
  refine lv_aload_n hx hb dX6_init_75 rfl (lv_at hl 1 rfl) ?_
  refine k_putF (own := RX6) (C := RX6) (T := TX6) (N := 9) (ci := 6) (ty := (.object "LiftFactors$Field")) (v := .ref a1) hx hb hts inX6_u tyX6 tyX6_ok nmX6 hown hw m20_x h22_x rfl 3 (by decide) u_204 rfl rfl hin (by decide +kernel) rfl rfl (by rw [hlen21]; decide) dX6_init_76 (fun H locs hw => ?_)
  obtain ⟨fs23, hz23⟩ : ∃ zz9, zz9 = fs21.set 3 (.ref a1) := ⟨_, rfl⟩
  rw [← hz23] at hw
  have hlen23 : fs23.length = 9 := by rw [hz23, List.length_set]; exact hlen21
  have g23_0 : fs23[0]? = some (.ref q1) := by rw [hz23, List.getElem?_set_ne (by decide)]; exact g21_0
  have g23_1 : fs23[1]? = some (.int (nI 0)) := by rw [hz23, List.getElem?_set_ne (by decide)]; exact g21_1
  have g23_2 : fs23[2]? = some (.int (nI 0)) := by rw [hz23, List.getElem?_set_ne (by decide)]; exact g21_2
  have g23_4 : fs23[4]? = some (.ref q2) := by rw [hz23, List.getElem?_set_ne (by decide)]; exact g21_4
  have g23_5 : fs23[5]? = some (.ref q3) := by rw [hz23, List.getElem?_set_ne (by decide)]; exact g21_5
  have g23_6 : fs23[6]? = some (.ref q4) := by rw [hz23, List.getElem?_set_ne (by decide)]; exact g21_6
  have g23_7 : fs23[7]? = some (.ref q5) := by rw [hz23, List.getElem?_set_ne (by decide)]; exact g21_7
  have g23_8 : fs23[8]? = some (.ref q6) := by rw [hz23, List.getElem?_set_ne (by decide)]; exact g21_8
  have g23_3 : fs23[3]? = some (.ref a1) := by rw [hz23, List.getElem?_set_self (by rw [hlen21]; decide)]
  obtain ⟨f24, ef24⟩ : ∃ z9 : Nat → va_E, z9 = va_up f22 x (eO 6 fs23) := ⟨_, rfl⟩
  rw [← ef24] at hw
  have eL24 : L20 = L20 := rfl
  have hf24 : ∀ q : Nat, q ≠ x → f24 q = f22 q := fun q hne => by rw [ef24]; exact va_up_ne _ _ hne
  have hof24 : ∀ q ∈ L, q ≠ x → f24 q = f q := fun q h hne => (hf24 q hne).trans (hof22 q h hne)
  have h24_q1 : f24 q1 = eJJ G 10 (fun i => if i < 10 then some (rr1 i) else none) := (hf24 _ nx_q1).trans h22_q1
  have h24_q2 : f24 q2 = eJJ G 10 (fun i => if i < 10 then some (rr2 i) else none) := (hf24 _ nx_q2).trans h22_q2
  have h24_q3 : f24 q3 = eJJ G 10 (fun i => if i < 10 then some (rr3 i) else none) := (hf24 _ nx_q3).trans h22_q3
  have h24_q4 : f24 q4 = eI G 10 (fun _ => 0) := (hf24 _ nx_q4).trans h22_q4
  have h24_q5 : f24 q5 = eJ G 11 (fun _ => 0) := (hf24 _ nx_q5).trans h22_q5
  have h24_q6 : f24 q6 = eJ G 11 (fun _ => 0) := (hf24 _ nx_q6).trans h22_q6
  have h24_x : f24 x = eO 6 fs23 := by rw [ef24]; exact va_up_eq _ _ _
  refine W.widen (k := 36) (n := 392) (by decide) (by decide) ?_
  exact w_vret (lf := fun u => u) hx hb hr hlocks (L20, f24) hw (⟨hsub20, hof24, fs23, h24_x, hlen23⟩) dX6_init_79
set_option maxRecDepth 100000 in
set_option maxHeartbeats 4000000 in
theorem k_X2_init (l : Launch) (G : gG) (L : List Nat) (f : Nat → va_E) (sz : Nat) (a1 : Nat) (a2 : Nat) (a3 : Nat) (a4 : Nat) (x : Nat) (fs : List Value) (hxL : x ∈ L) (hxo : f x = eO 3 fs) (hfl : fs.length = 11) :
    Met l yX2_init (uW yX2_init cX2_init 5 none) { frames := 1, cells := 16, slots := 174, locals := 20 } (wInK G [.ref x, .ref a1, .ref a2, .ref a3, .ref a4] L f sz) (va_Qv (fun (u : List Nat × (Nat → va_E)) => kP L f x 3 11 u) (fun u => wAt G (wA L f sz) u.1 u.2) (wA L f sz)) 16 174 (wA L f sz) := by
  refine kEnter (by decide) (by decide) (Nat.le_of_ble_eq_true rfl) ?_
  intro p e s m below meth c ls cx hin hl hw hk
  obtain ⟨hx, hb, hr, hml, hown, hts, hlocks⟩ := id cx
  have hown : s.vm.findClass RX2 = some m.cls := hown
  have hl : lv_has ls 5 [(0, .ref x), (1, .ref a1), (2, .ref a2), (3, .ref a3), (4, .ref a4)] := hl
  generalize wA L f sz = A at hw ⊢
  have hsub0 : ∀ q ∈ L, q ∈ L := fun _ h => h
  have hof0 : ∀ q ∈ L, q ≠ x → f q = f q := fun _ _ _ => rfl

  refine lv_aload_n hx hb dX2_init_0 rfl (lv_at hl 0 rfl) ?_
  refine W.objInit hx hb hown (hts _ u_205) (hts _ u_173) (hts _ u_174) rfl (by rw [hml]; exact hl.1) rfl dX2_init_1 (Nat.le_of_ble_eq_true rfl) (Nat.le_of_ble_eq_true rfl) ?_
  refine W.eq (g2 := F0 m 4 ls []) rfl ?_
  refine lv_aload_n hx hb dX2_init_4 rfl (lv_at hl 0 rfl) ?_
  refine lv_bipush (v := nI 10) hx hb dX2_init_5 (by decide) ?_
  refine lv_bipush (v := nI 11) hx hb dX2_init_7 (by decide) ?_
  refine k_mna hx hb hts hown hk .long 1 4 (Or.inr ⟨rfl, rfl, rfl⟩) (11, .inr (.inl (fun _ => 0))) 10 11 (fun _ => by rw [show vp_cell _ (11, .inr (.inl (fun _ => 0))) = arrV _ 11 (fun _ => defaultValue .long) from rfl, ← arrV_new]; rfl) u_206 u_177 hw (by decide) (by decide) (by decide) (by decide) dX2_init_9 (fun q1 rr1 H hq_q1 hr_q1 hw => ?_)
  obtain ⟨L1, eL1⟩ : ∃ z : List Nat, z = q1 :: (L ++ (List.range 10).map rr1) := ⟨_, rfl⟩
  obtain ⟨f1, ef1⟩ : ∃ z : Nat → va_E, z = va_up (vr_up f ((List.range 10).map rr1) (eJ G 11 (fun _ => 0))) q1 (eJJ G 10 (fun i => if i < 10 then some (rr1 i) else none)) := ⟨_, rfl⟩
  rw [← eL1, ← ef1] at hw
  have hnr_q1 : ∀ q ∈ L, q ∉ (List.range 10).map rr1 := fun q h h9 => by
    obtain ⟨i, hi, e9⟩ := List.mem_map.mp h9
    exact (hr_q1 i (List.mem_range.mp hi)).1 (by rw [e9]; exact h)
  have hm1 : ∀ q ∈ L, q ∈ L1 := fun q h => by rw [eL1]; exact List.mem_cons_of_mem _ (List.mem_append_left _ h)
  have hf1 : ∀ q ∈ L, True → f1 q = f q := fun q h hne => by rw [ef1]; exact (va_up_ne _ _ (fun h9 => hq_q1 (by rw [← h9]; exact h))).trans (vr_up_ne (hnr_q1 q h))
  have hsub1 : ∀ q ∈ L, q ∈ L1 := fun q h => hm1 q (hsub0 q h)
  have hof1 : ∀ q ∈ L, q ≠ x → f1 q = f q := fun q h hne => (hf1 q (hsub0 q h) trivial).trans (hof0 q h hne)
  have m1_x : x ∈ L1 := hm1 _ hxL
  have h1_x : f1 x = eO 3 fs := (hf1 _ hxL trivial).trans hxo
  have mq_q1 : q1 ∈ L1 := by rw [eL1]; exact List.mem_cons_self
  have hv_q1 : f1 q1 = eJJ G 10 (fun i => if i < 10 then some (rr1 i) else none) := by rw [ef1]; exact va_up_eq _ _ _
  have nx_q1 : q1 ≠ x := fun h9 => hq_q1 (by rw [h9]; exact hxL)
  refine k_putF (own := RX2) (C := RX2) (T := TX2) (N := 11) (ci := 3) (ty := (.array (.array .long))) (v := .ref q1) hx hb hts inX2_u tyX2 tyX2_ok nmX2 hown hw m1_x h1_x rfl 0 (by decide) u_207 rfl rfl hin (by decide +kernel) rfl rfl (by rw [hfl]; decide) dX2_init_13 (fun H locs hw => ?_)
  obtain ⟨fs2, hz2⟩ : ∃ zz9, zz9 = fs.set 0 (.ref q1) := ⟨_, rfl⟩
  rw [← hz2] at hw
  have hlen2 : fs2.length = 11 := by rw [hz2, List.length_set]; exact hfl
  have g2_0 : fs2[0]? = some (.ref q1) := by rw [hz2, List.getElem?_set_self (by rw [hfl]; decide)]
  obtain ⟨f3, ef3⟩ : ∃ z9 : Nat → va_E, z9 = va_up f1 x (eO 3 fs2) := ⟨_, rfl⟩
  rw [← ef3] at hw
  have eL3 : L1 = L1 := rfl
  have hf3 : ∀ q : Nat, q ≠ x → f3 q = f1 q := fun q hne => by rw [ef3]; exact va_up_ne _ _ hne
  have hof3 : ∀ q ∈ L, q ≠ x → f3 q = f q := fun q h hne => (hf3 q hne).trans (hof1 q h hne)
  have h3_q1 : f3 q1 = eJJ G 10 (fun i => if i < 10 then some (rr1 i) else none) := (hf3 _ nx_q1).trans hv_q1
  have h3_x : f3 x = eO 3 fs2 := by rw [ef3]; exact va_up_eq _ _ _
  refine lv_aload_n hx hb dX2_init_16 rfl (lv_at hl 0 rfl) ?_
  refine lv_bipush (v := nI 10) hx hb dX2_init_17 (by decide) ?_
  refine k_newI hx hb hts u_200 hw 10 (by decide) (by decide) (by decide) dX2_init_19 (fun q2 H hq_q2 hw => ?_)
  obtain ⟨L4, eL4⟩ : ∃ z : List Nat, z = L1 ++ [q2] := ⟨_, rfl⟩
  obtain ⟨f4, ef4⟩ : ∃ z : Nat → va_E, z = va_up f3 q2 (eI G 10 (fun _ => 0)) := ⟨_, rfl⟩
  rw [← eL4, ← ef4] at hw
  have hm4 : ∀ q ∈ L1, q ∈ L4 := fun q h => by rw [eL4]; exact List.mem_append_left _ h
  have hf4 : ∀ q ∈ L1, True → f4 q = f3 q := fun q h hne => by rw [ef4]; exact va_up_ne _ _ (fun h9 => hq_q2 (by rw [← h9]; exact h))
  have hsub4 : ∀ q ∈ L, q ∈ L4 := fun q h => hm4 q (hsub1 q h)
  have hof4 : ∀ q ∈ L, q ≠ x → f4 q = f q := fun q h hne => (hf4 q (hsub1 q h) trivial).trans (hof3 q h hne)
  have m4_x : x ∈ L4 := hm4 _ m1_x
  have h4_x : f4 x = eO 3 fs2 := (hf4 _ m1_x trivial).trans h3_x
  have m4_q1 : q1 ∈ L4 := hm4 _ mq_q1
  have h4_q1 : f4 q1 = eJJ G 10 (fun i => if i < 10 then some (rr1 i) else none) := (hf4 _ mq_q1 trivial).trans h3_q1
  have mq_q2 : q2 ∈ L4 := by rw [eL4]; exact List.mem_append_right _ (List.mem_singleton.mpr rfl)
  have hv_q2 : f4 q2 = eI G 10 (fun _ => 0) := by rw [ef4]; exact va_up_eq _ _ _
  have nx_q2 : q2 ≠ x := fun h9 => hq_q2 (by rw [h9]; exact m1_x)
  refine k_putF (own := RX2) (C := RX2) (T := TX2) (N := 11) (ci := 3) (ty := (.array .int)) (v := .ref q2) hx hb hts inX2_u tyX2 tyX2_ok nmX2 hown hw m4_x h4_x rfl 1 (by decide) u_208 rfl rfl hin (by decide +kernel) rfl rfl (by rw [hlen2]; decide) dX2_init_21 (fun H locs hw => ?_)
  obtain ⟨fs5, hz5⟩ : ∃ zz9, zz9 = fs2.set 1 (.ref q2) := ⟨_, rfl⟩
  rw [← hz5] at hw
  have hlen5 : fs5.length = 11 := by rw [hz5, List.length_set]; exact hlen2
  have g5_0 : fs5[0]? = some (.ref q1) := by rw [hz5, List.getElem?_set_ne (by decide)]; exact g2_0
  have g5_1 : fs5[1]? = some (.ref q2) := by rw [hz5, List.getElem?_set_self (by rw [hlen2]; decide)]
  obtain ⟨f6, ef6⟩ : ∃ z9 : Nat → va_E, z9 = va_up f4 x (eO 3 fs5) := ⟨_, rfl⟩
  rw [← ef6] at hw
  have eL6 : L4 = L4 := rfl
  have hf6 : ∀ q : Nat, q ≠ x → f6 q = f4 q := fun q hne => by rw [ef6]; exact va_up_ne _ _ hne
  have hof6 : ∀ q ∈ L, q ≠ x → f6 q = f q := fun q h hne => (hf6 q hne).trans (hof4 q h hne)
  have h6_q1 : f6 q1 = eJJ G 10 (fun i => if i < 10 then some (rr1 i) else none) := (hf6 _ nx_q1).trans h4_q1
  have h6_q2 : f6 q2 = eI G 10 (fun _ => 0) := (hf6 _ nx_q2).trans hv_q2
  have h6_x : f6 x = eO 3 fs5 := by rw [ef6]; exact va_up_eq _ _ _
  refine lv_aload_n hx hb dX2_init_24 rfl (lv_at hl 0 rfl) ?_
  refine lv_iconst (v := nI 0) hx hb dX2_init_25 (by decide) ?_
  refine w_put (C := RX2) (T := TX2) (N := 11) (ci := 3) (ref := "LiftFactors$Factorizer") (ty := .int) (v := .int (nI 0)) hx hb hts inX2_u tyX2 tyX2_ok nmX2 hown hw m4_x h6_x rfl 2 (by decide) u_209 rfl rfl (by decide +kernel) rfl rfl (by rw [hlen5]; decide) dX2_init_26 (fun H locs hw => ?_)
  obtain ⟨fs7, hz7⟩ : ∃ zz9, zz9 = fs5.set 2 (.int (nI 0)) := ⟨_, rfl⟩
  rw [← hz7] at hw
  have hlen7 : fs7.length = 11 := by rw [hz7, List.length_set]; exact hlen5
  have g7_0 : fs7[0]? = some (.ref q1) := by rw [hz7, List.getElem?_set_ne (by decide)]; exact g5_0
  have g7_1 : fs7[1]? = some (.ref q2) := by rw [hz7, List.getElem?_set_ne (by decide)]; exact g5_1
  have g7_2 : fs7[2]? = some (.int (nI 0)) := by rw [hz7, List.getElem?_set_self (by rw [hlen5]; decide)]
  obtain ⟨f8, ef8⟩ : ∃ z9 : Nat → va_E, z9 = va_up f6 x (eO 3 fs7) := ⟨_, rfl⟩
  rw [← ef8] at hw
  have eL8 : L4 = L4 := rfl
  have hf8 : ∀ q : Nat, q ≠ x → f8 q = f6 q := fun q hne => by rw [ef8]; exact va_up_ne _ _ hne
  have hof8 : ∀ q ∈ L, q ≠ x → f8 q = f q := fun q h hne => (hf8 q hne).trans (hof6 q h hne)
  have h8_q1 : f8 q1 = eJJ G 10 (fun i => if i < 10 then some (rr1 i) else none) := (hf8 _ nx_q1).trans h6_q1
  have h8_q2 : f8 q2 = eI G 10 (fun _ => 0) := (hf8 _ nx_q2).trans h6_q2
  have h8_x : f8 x = eO 3 fs7 := by rw [ef8]; exact va_up_eq _ _ _
  refine lv_aload_n hx hb dX2_init_29 rfl (lv_at hl 0 rfl) ?_
  refine lv_bipush (v := nI 11) hx hb dX2_init_30 (by decide) ?_
  refine k_newJ hx hb hts u_177 hw 11 (by decide) (by decide) (by decide) dX2_init_32 (fun q3 H hq_q3 hw => ?_)
  obtain ⟨L9, eL9⟩ : ∃ z : List Nat, z = L4 ++ [q3] := ⟨_, rfl⟩
  obtain ⟨f9, ef9⟩ : ∃ z : Nat → va_E, z = va_up f8 q3 (eJ G 11 (fun _ => 0)) := ⟨_, rfl⟩
  rw [← eL9, ← ef9] at hw
  have hm9 : ∀ q ∈ L4, q ∈ L9 := fun q h => by rw [eL9]; exact List.mem_append_left _ h
  have hf9 : ∀ q ∈ L4, True → f9 q = f8 q := fun q h hne => by rw [ef9]; exact va_up_ne _ _ (fun h9 => hq_q3 (by rw [← h9]; exact h))
  have hsub9 : ∀ q ∈ L, q ∈ L9 := fun q h => hm9 q (hsub4 q h)
  have hof9 : ∀ q ∈ L, q ≠ x → f9 q = f q := fun q h hne => (hf9 q (hsub4 q h) trivial).trans (hof8 q h hne)
  have m9_x : x ∈ L9 := hm9 _ m4_x
  have h9_x : f9 x = eO 3 fs7 := (hf9 _ m4_x trivial).trans h8_x
  have m9_q1 : q1 ∈ L9 := hm9 _ m4_q1
  have h9_q1 : f9 q1 = eJJ G 10 (fun i => if i < 10 then some (rr1 i) else none) := (hf9 _ m4_q1 trivial).trans h8_q1
  have m9_q2 : q2 ∈ L9 := hm9 _ mq_q2
  have h9_q2 : f9 q2 = eI G 10 (fun _ => 0) := (hf9 _ mq_q2 trivial).trans h8_q2
  have mq_q3 : q3 ∈ L9 := by rw [eL9]; exact List.mem_append_right _ (List.mem_singleton.mpr rfl)
  have hv_q3 : f9 q3 = eJ G 11 (fun _ => 0) := by rw [ef9]; exact va_up_eq _ _ _
  have nx_q3 : q3 ≠ x := fun h9 => hq_q3 (by rw [h9]; exact m4_x)
  refine k_putF (own := RX2) (C := RX2) (T := TX2) (N := 11) (ci := 3) (ty := (.array .long)) (v := .ref q3) hx hb hts inX2_u tyX2 tyX2_ok nmX2 hown hw m9_x h9_x rfl 7 (by decide) u_210 rfl rfl hin (by decide +kernel) rfl rfl (by rw [hlen7]; decide) dX2_init_34 (fun H locs hw => ?_)
  obtain ⟨fs10, hz10⟩ : ∃ zz9, zz9 = fs7.set 7 (.ref q3) := ⟨_, rfl⟩
  rw [← hz10] at hw
  have hlen10 : fs10.length = 11 := by rw [hz10, List.length_set]; exact hlen7
  have g10_0 : fs10[0]? = some (.ref q1) := by rw [hz10, List.getElem?_set_ne (by decide)]; exact g7_0
  have g10_1 : fs10[1]? = some (.ref q2) := by rw [hz10, List.getElem?_set_ne (by decide)]; exact g7_1
  have g10_2 : fs10[2]? = some (.int (nI 0)) := by rw [hz10, List.getElem?_set_ne (by decide)]; exact g7_2
  have g10_7 : fs10[7]? = some (.ref q3) := by rw [hz10, List.getElem?_set_self (by rw [hlen7]; decide)]
  obtain ⟨f11, ef11⟩ : ∃ z9 : Nat → va_E, z9 = va_up f9 x (eO 3 fs10) := ⟨_, rfl⟩
  rw [← ef11] at hw
  have eL11 : L9 = L9 := rfl
  have hf11 : ∀ q : Nat, q ≠ x → f11 q = f9 q := fun q hne => by rw [ef11]; exact va_up_ne _ _ hne
  have hof11 : ∀ q ∈ L, q ≠ x → f11 q = f q := fun q h hne => (hf11 q hne).trans (hof9 q h hne)
  have h11_q1 : f11 q1 = eJJ G 10 (fun i => if i < 10 then some (rr1 i) else none) := (hf11 _ nx_q1).trans h9_q1
  have h11_q2 : f11 q2 = eI G 10 (fun _ => 0) := (hf11 _ nx_q2).trans h9_q2
  have h11_q3 : f11 q3 = eJ G 11 (fun _ => 0) := (hf11 _ nx_q3).trans hv_q3
  have h11_x : f11 x = eO 3 fs10 := by rw [ef11]; exact va_up_eq _ _ _
  refine lv_aload_n hx hb dX2_init_37 rfl (lv_at hl 0 rfl) ?_
  refine lv_bipush (v := nI 11) hx hb dX2_init_38 (by decide) ?_
  refine k_newJ hx hb hts u_177 hw 11 (by decide) (by decide) (by decide) dX2_init_40 (fun q4 H hq_q4 hw => ?_)
  obtain ⟨L12, eL12⟩ : ∃ z : List Nat, z = L9 ++ [q4] := ⟨_, rfl⟩
  obtain ⟨f12, ef12⟩ : ∃ z : Nat → va_E, z = va_up f11 q4 (eJ G 11 (fun _ => 0)) := ⟨_, rfl⟩
  rw [← eL12, ← ef12] at hw
  have hm12 : ∀ q ∈ L9, q ∈ L12 := fun q h => by rw [eL12]; exact List.mem_append_left _ h
  have hf12 : ∀ q ∈ L9, True → f12 q = f11 q := fun q h hne => by rw [ef12]; exact va_up_ne _ _ (fun h9 => hq_q4 (by rw [← h9]; exact h))
  have hsub12 : ∀ q ∈ L, q ∈ L12 := fun q h => hm12 q (hsub9 q h)
  have hof12 : ∀ q ∈ L, q ≠ x → f12 q = f q := fun q h hne => (hf12 q (hsub9 q h) trivial).trans (hof11 q h hne)
  have m12_x : x ∈ L12 := hm12 _ m9_x
  have h12_x : f12 x = eO 3 fs10 := (hf12 _ m9_x trivial).trans h11_x
  have m12_q1 : q1 ∈ L12 := hm12 _ m9_q1
  have h12_q1 : f12 q1 = eJJ G 10 (fun i => if i < 10 then some (rr1 i) else none) := (hf12 _ m9_q1 trivial).trans h11_q1
  have m12_q2 : q2 ∈ L12 := hm12 _ m9_q2
  have h12_q2 : f12 q2 = eI G 10 (fun _ => 0) := (hf12 _ m9_q2 trivial).trans h11_q2
  have m12_q3 : q3 ∈ L12 := hm12 _ mq_q3
  have h12_q3 : f12 q3 = eJ G 11 (fun _ => 0) := (hf12 _ mq_q3 trivial).trans h11_q3
  have mq_q4 : q4 ∈ L12 := by rw [eL12]; exact List.mem_append_right _ (List.mem_singleton.mpr rfl)
  have hv_q4 : f12 q4 = eJ G 11 (fun _ => 0) := by rw [ef12]; exact va_up_eq _ _ _
  have nx_q4 : q4 ≠ x := fun h9 => hq_q4 (by rw [h9]; exact m9_x)
  refine k_putF (own := RX2) (C := RX2) (T := TX2) (N := 11) (ci := 3) (ty := (.array .long)) (v := .ref q4) hx hb hts inX2_u tyX2 tyX2_ok nmX2 hown hw m12_x h12_x rfl 8 (by decide) u_211 rfl rfl hin (by decide +kernel) rfl rfl (by rw [hlen10]; decide) dX2_init_42 (fun H locs hw => ?_)
  obtain ⟨fs13, hz13⟩ : ∃ zz9, zz9 = fs10.set 8 (.ref q4) := ⟨_, rfl⟩
  rw [← hz13] at hw
  have hlen13 : fs13.length = 11 := by rw [hz13, List.length_set]; exact hlen10
  have g13_0 : fs13[0]? = some (.ref q1) := by rw [hz13, List.getElem?_set_ne (by decide)]; exact g10_0
  have g13_1 : fs13[1]? = some (.ref q2) := by rw [hz13, List.getElem?_set_ne (by decide)]; exact g10_1
  have g13_2 : fs13[2]? = some (.int (nI 0)) := by rw [hz13, List.getElem?_set_ne (by decide)]; exact g10_2
  have g13_7 : fs13[7]? = some (.ref q3) := by rw [hz13, List.getElem?_set_ne (by decide)]; exact g10_7
  have g13_8 : fs13[8]? = some (.ref q4) := by rw [hz13, List.getElem?_set_self (by rw [hlen10]; decide)]
  obtain ⟨f14, ef14⟩ : ∃ z9 : Nat → va_E, z9 = va_up f12 x (eO 3 fs13) := ⟨_, rfl⟩
  rw [← ef14] at hw
  have eL14 : L12 = L12 := rfl
  have hf14 : ∀ q : Nat, q ≠ x → f14 q = f12 q := fun q hne => by rw [ef14]; exact va_up_ne _ _ hne
  have hof14 : ∀ q ∈ L, q ≠ x → f14 q = f q := fun q h hne => (hf14 q hne).trans (hof12 q h hne)
  have h14_q1 : f14 q1 = eJJ G 10 (fun i => if i < 10 then some (rr1 i) else none) := (hf14 _ nx_q1).trans h12_q1
  have h14_q2 : f14 q2 = eI G 10 (fun _ => 0) := (hf14 _ nx_q2).trans h12_q2
  have h14_q3 : f14 q3 = eJ G 11 (fun _ => 0) := (hf14 _ nx_q3).trans h12_q3
  have h14_q4 : f14 q4 = eJ G 11 (fun _ => 0) := (hf14 _ nx_q4).trans hv_q4
  have h14_x : f14 x = eO 3 fs13 := by rw [ef14]; exact va_up_eq _ _ _
  refine lv_aload_n hx hb dX2_init_45 rfl (lv_at hl 0 rfl) ?_
  refine lv_bipush (v := nI 11) hx hb dX2_init_46 (by decide) ?_
  refine k_newJ hx hb hts u_177 hw 11 (by decide) (by decide) (by decide) dX2_init_48 (fun q5 H hq_q5 hw => ?_)
  obtain ⟨L15, eL15⟩ : ∃ z : List Nat, z = L12 ++ [q5] := ⟨_, rfl⟩
  obtain ⟨f15, ef15⟩ : ∃ z : Nat → va_E, z = va_up f14 q5 (eJ G 11 (fun _ => 0)) := ⟨_, rfl⟩
  rw [← eL15, ← ef15] at hw
  have hm15 : ∀ q ∈ L12, q ∈ L15 := fun q h => by rw [eL15]; exact List.mem_append_left _ h
  have hf15 : ∀ q ∈ L12, True → f15 q = f14 q := fun q h hne => by rw [ef15]; exact va_up_ne _ _ (fun h9 => hq_q5 (by rw [← h9]; exact h))
  have hsub15 : ∀ q ∈ L, q ∈ L15 := fun q h => hm15 q (hsub12 q h)
  have hof15 : ∀ q ∈ L, q ≠ x → f15 q = f q := fun q h hne => (hf15 q (hsub12 q h) trivial).trans (hof14 q h hne)
  have m15_x : x ∈ L15 := hm15 _ m12_x
  have h15_x : f15 x = eO 3 fs13 := (hf15 _ m12_x trivial).trans h14_x
  have m15_q1 : q1 ∈ L15 := hm15 _ m12_q1
  have h15_q1 : f15 q1 = eJJ G 10 (fun i => if i < 10 then some (rr1 i) else none) := (hf15 _ m12_q1 trivial).trans h14_q1
  have m15_q2 : q2 ∈ L15 := hm15 _ m12_q2
  have h15_q2 : f15 q2 = eI G 10 (fun _ => 0) := (hf15 _ m12_q2 trivial).trans h14_q2
  have m15_q3 : q3 ∈ L15 := hm15 _ m12_q3
  have h15_q3 : f15 q3 = eJ G 11 (fun _ => 0) := (hf15 _ m12_q3 trivial).trans h14_q3
  have m15_q4 : q4 ∈ L15 := hm15 _ mq_q4
  have h15_q4 : f15 q4 = eJ G 11 (fun _ => 0) := (hf15 _ mq_q4 trivial).trans h14_q4
  have mq_q5 : q5 ∈ L15 := by rw [eL15]; exact List.mem_append_right _ (List.mem_singleton.mpr rfl)
  have hv_q5 : f15 q5 = eJ G 11 (fun _ => 0) := by rw [ef15]; exact va_up_eq _ _ _
  have nx_q5 : q5 ≠ x := fun h9 => hq_q5 (by rw [h9]; exact m12_x)
  refine k_putF (own := RX2) (C := RX2) (T := TX2) (N := 11) (ci := 3) (ty := (.array .long)) (v := .ref q5) hx hb hts inX2_u tyX2 tyX2_ok nmX2 hown hw m15_x h15_x rfl 9 (by decide) u_212 rfl rfl hin (by decide +kernel) rfl rfl (by rw [hlen13]; decide) dX2_init_50 (fun H locs hw => ?_)
  obtain ⟨fs16, hz16⟩ : ∃ zz9, zz9 = fs13.set 9 (.ref q5) := ⟨_, rfl⟩
  rw [← hz16] at hw
  have hlen16 : fs16.length = 11 := by rw [hz16, List.length_set]; exact hlen13
  have g16_0 : fs16[0]? = some (.ref q1) := by rw [hz16, List.getElem?_set_ne (by decide)]; exact g13_0
  have g16_1 : fs16[1]? = some (.ref q2) := by rw [hz16, List.getElem?_set_ne (by decide)]; exact g13_1
  have g16_2 : fs16[2]? = some (.int (nI 0)) := by rw [hz16, List.getElem?_set_ne (by decide)]; exact g13_2
  have g16_7 : fs16[7]? = some (.ref q3) := by rw [hz16, List.getElem?_set_ne (by decide)]; exact g13_7
  have g16_8 : fs16[8]? = some (.ref q4) := by rw [hz16, List.getElem?_set_ne (by decide)]; exact g13_8
  have g16_9 : fs16[9]? = some (.ref q5) := by rw [hz16, List.getElem?_set_self (by rw [hlen13]; decide)]
  obtain ⟨f17, ef17⟩ : ∃ z9 : Nat → va_E, z9 = va_up f15 x (eO 3 fs16) := ⟨_, rfl⟩
  rw [← ef17] at hw
  have eL17 : L15 = L15 := rfl
  have hf17 : ∀ q : Nat, q ≠ x → f17 q = f15 q := fun q hne => by rw [ef17]; exact va_up_ne _ _ hne
  have hof17 : ∀ q ∈ L, q ≠ x → f17 q = f q := fun q h hne => (hf17 q hne).trans (hof15 q h hne)
  have h17_q1 : f17 q1 = eJJ G 10 (fun i => if i < 10 then some (rr1 i) else none) := (hf17 _ nx_q1).trans h15_q1
  have h17_q2 : f17 q2 = eI G 10 (fun _ => 0) := (hf17 _ nx_q2).trans h15_q2
  have h17_q3 : f17 q3 = eJ G 11 (fun _ => 0) := (hf17 _ nx_q3).trans h15_q3
  have h17_q4 : f17 q4 = eJ G 11 (fun _ => 0) := (hf17 _ nx_q4).trans h15_q4
  have h17_q5 : f17 q5 = eJ G 11 (fun _ => 0) := (hf17 _ nx_q5).trans hv_q5
  have h17_x : f17 x = eO 3 fs16 := by rw [ef17]; exact va_up_eq _ _ _
  refine lv_aload_n hx hb dX2_init_53 rfl (lv_at hl 0 rfl) ?_
  refine lv_bipush (v := nI 11) hx hb dX2_init_54 (by decide) ?_
  refine k_newJ hx hb hts u_177 hw 11 (by decide) (by decide) (by decide) dX2_init_56 (fun q6 H hq_q6 hw => ?_)
  obtain ⟨L18, eL18⟩ : ∃ z : List Nat, z = L15 ++ [q6] := ⟨_, rfl⟩
  obtain ⟨f18, ef18⟩ : ∃ z : Nat → va_E, z = va_up f17 q6 (eJ G 11 (fun _ => 0)) := ⟨_, rfl⟩
  rw [← eL18, ← ef18] at hw
  have hm18 : ∀ q ∈ L15, q ∈ L18 := fun q h => by rw [eL18]; exact List.mem_append_left _ h
  have hf18 : ∀ q ∈ L15, True → f18 q = f17 q := fun q h hne => by rw [ef18]; exact va_up_ne _ _ (fun h9 => hq_q6 (by rw [← h9]; exact h))
  have hsub18 : ∀ q ∈ L, q ∈ L18 := fun q h => hm18 q (hsub15 q h)
  have hof18 : ∀ q ∈ L, q ≠ x → f18 q = f q := fun q h hne => (hf18 q (hsub15 q h) trivial).trans (hof17 q h hne)
  have m18_x : x ∈ L18 := hm18 _ m15_x
  have h18_x : f18 x = eO 3 fs16 := (hf18 _ m15_x trivial).trans h17_x
  have m18_q1 : q1 ∈ L18 := hm18 _ m15_q1
  have h18_q1 : f18 q1 = eJJ G 10 (fun i => if i < 10 then some (rr1 i) else none) := (hf18 _ m15_q1 trivial).trans h17_q1
  have m18_q2 : q2 ∈ L18 := hm18 _ m15_q2
  have h18_q2 : f18 q2 = eI G 10 (fun _ => 0) := (hf18 _ m15_q2 trivial).trans h17_q2
  have m18_q3 : q3 ∈ L18 := hm18 _ m15_q3
  have h18_q3 : f18 q3 = eJ G 11 (fun _ => 0) := (hf18 _ m15_q3 trivial).trans h17_q3
  have m18_q4 : q4 ∈ L18 := hm18 _ m15_q4
  have h18_q4 : f18 q4 = eJ G 11 (fun _ => 0) := (hf18 _ m15_q4 trivial).trans h17_q4
  have m18_q5 : q5 ∈ L18 := hm18 _ mq_q5
  have h18_q5 : f18 q5 = eJ G 11 (fun _ => 0) := (hf18 _ mq_q5 trivial).trans h17_q5
  have mq_q6 : q6 ∈ L18 := by rw [eL18]; exact List.mem_append_right _ (List.mem_singleton.mpr rfl)
  have hv_q6 : f18 q6 = eJ G 11 (fun _ => 0) := by rw [ef18]; exact va_up_eq _ _ _
  have nx_q6 : q6 ≠ x := fun h9 => hq_q6 (by rw [h9]; exact m15_x)
  refine k_putF (own := RX2) (C := RX2) (T := TX2) (N := 11) (ci := 3) (ty := (.array .long)) (v := .ref q6) hx hb hts inX2_u tyX2 tyX2_ok nmX2 hown hw m18_x h18_x rfl 10 (by decide) u_213 rfl rfl hin (by decide +kernel) rfl rfl (by rw [hlen16]; decide) dX2_init_58 (fun H locs hw => ?_)
  obtain ⟨fs19, hz19⟩ : ∃ zz9, zz9 = fs16.set 10 (.ref q6) := ⟨_, rfl⟩
  rw [← hz19] at hw
  have hlen19 : fs19.length = 11 := by rw [hz19, List.length_set]; exact hlen16
  have g19_0 : fs19[0]? = some (.ref q1) := by rw [hz19, List.getElem?_set_ne (by decide)]; exact g16_0
  have g19_1 : fs19[1]? = some (.ref q2) := by rw [hz19, List.getElem?_set_ne (by decide)]; exact g16_1
  have g19_2 : fs19[2]? = some (.int (nI 0)) := by rw [hz19, List.getElem?_set_ne (by decide)]; exact g16_2
  have g19_7 : fs19[7]? = some (.ref q3) := by rw [hz19, List.getElem?_set_ne (by decide)]; exact g16_7
  have g19_8 : fs19[8]? = some (.ref q4) := by rw [hz19, List.getElem?_set_ne (by decide)]; exact g16_8
  have g19_9 : fs19[9]? = some (.ref q5) := by rw [hz19, List.getElem?_set_ne (by decide)]; exact g16_9
  have g19_10 : fs19[10]? = some (.ref q6) := by rw [hz19, List.getElem?_set_self (by rw [hlen16]; decide)]
  obtain ⟨f20, ef20⟩ : ∃ z9 : Nat → va_E, z9 = va_up f18 x (eO 3 fs19) := ⟨_, rfl⟩
  rw [← ef20] at hw
  have eL20 : L18 = L18 := rfl
  have hf20 : ∀ q : Nat, q ≠ x → f20 q = f18 q := fun q hne => by rw [ef20]; exact va_up_ne _ _ hne
  have hof20 : ∀ q ∈ L, q ≠ x → f20 q = f q := fun q h hne => (hf20 q hne).trans (hof18 q h hne)
  have h20_q1 : f20 q1 = eJJ G 10 (fun i => if i < 10 then some (rr1 i) else none) := (hf20 _ nx_q1).trans h18_q1
  have h20_q2 : f20 q2 = eI G 10 (fun _ => 0) := (hf20 _ nx_q2).trans h18_q2
  have h20_q3 : f20 q3 = eJ G 11 (fun _ => 0) := (hf20 _ nx_q3).trans h18_q3
  have h20_q4 : f20 q4 = eJ G 11 (fun _ => 0) := (hf20 _ nx_q4).trans h18_q4
  have h20_q5 : f20 q5 = eJ G 11 (fun _ => 0) := (hf20 _ nx_q5).trans h18_q5
  have h20_q6 : f20 q6 = eJ G 11 (fun _ => 0) := (hf20 _ nx_q6).trans hv_q6
  have h20_x : f20 x = eO 3 fs19 := by rw [ef20]; exact va_up_eq _ _ _
  refine lv_aload_n hx hb dX2_init_61 rfl (lv_at hl 0 rfl) ?_
  refine lv_aload_n hx hb dX2_init_62 rfl (lv_at hl 1 rfl) ?_
  refine k_putF (own := RX2) (C := RX2) (T := TX2) (N := 11) (ci := 3) (ty := (.object "LiftFactors$Field")) (v := .ref a1) hx hb hts inX2_u tyX2 tyX2_ok nmX2 hown hw m18_x h20_x rfl 3 (by decide) u_214 rfl rfl hin (by decide +kernel) rfl rfl (by rw [hlen19]; decide) dX2_init_63 (fun H locs hw => ?_)
  obtain ⟨fs21, hz21⟩ : ∃ zz9, zz9 = fs19.set 3 (.ref a1) := ⟨_, rfl⟩
  rw [← hz21] at hw
  have hlen21 : fs21.length = 11 := by rw [hz21, List.length_set]; exact hlen19
  have g21_0 : fs21[0]? = some (.ref q1) := by rw [hz21, List.getElem?_set_ne (by decide)]; exact g19_0
  have g21_1 : fs21[1]? = some (.ref q2) := by rw [hz21, List.getElem?_set_ne (by decide)]; exact g19_1
  have g21_2 : fs21[2]? = some (.int (nI 0)) := by rw [hz21, List.getElem?_set_ne (by decide)]; exact g19_2
  have g21_7 : fs21[7]? = some (.ref q3) := by rw [hz21, List.getElem?_set_ne (by decide)]; exact g19_7
  have g21_8 : fs21[8]? = some (.ref q4) := by rw [hz21, List.getElem?_set_ne (by decide)]; exact g19_8
  have g21_9 : fs21[9]? = some (.ref q5) := by rw [hz21, List.getElem?_set_ne (by decide)]; exact g19_9
  have g21_10 : fs21[10]? = some (.ref q6) := by rw [hz21, List.getElem?_set_ne (by decide)]; exact g19_10
  have g21_3 : fs21[3]? = some (.ref a1) := by rw [hz21, List.getElem?_set_self (by rw [hlen19]; decide)]
  obtain ⟨f22, ef22⟩ : ∃ z9 : Nat → va_E, z9 = va_up f20 x (eO 3 fs21) := ⟨_, rfl⟩
  rw [← ef22] at hw
  have eL22 : L18 = L18 := rfl
  have hf22 : ∀ q : Nat, q ≠ x → f22 q = f20 q := fun q hne => by rw [ef22]; exact va_up_ne _ _ hne
  have hof22 : ∀ q ∈ L, q ≠ x → f22 q = f q := fun q h hne => (hf22 q hne).trans (hof20 q h hne)
  have h22_q1 : f22 q1 = eJJ G 10 (fun i => if i < 10 then some (rr1 i) else none) := (hf22 _ nx_q1).trans h20_q1
  have h22_q2 : f22 q2 = eI G 10 (fun _ => 0) := (hf22 _ nx_q2).trans h20_q2
  have h22_q3 : f22 q3 = eJ G 11 (fun _ => 0) := (hf22 _ nx_q3).trans h20_q3
  have h22_q4 : f22 q4 = eJ G 11 (fun _ => 0) := (hf22 _ nx_q4).trans h20_q4
  have h22_q5 : f22 q5 = eJ G 11 (fun _ => 0) := (hf22 _ nx_q5).trans h20_q5
  have h22_q6 : f22 q6 = eJ G 11 (fun _ => 0) := (hf22 _ nx_q6).trans h20_q6
  have h22_x : f22 x = eO 3 fs21 := by rw [ef22]; exact va_up_eq _ _ _
  refine lv_aload_n hx hb dX2_init_66 rfl (lv_at hl 0 rfl) ?_
  refine lv_aload_n hx hb dX2_init_67 rfl (lv_at hl 2 rfl) ?_
  refine k_putF (own := RX2) (C := RX2) (T := TX2) (N := 11) (ci := 3) (ty := (.object "LiftFactors$Divider")) (v := .ref a2) hx hb hts inX2_u tyX2 tyX2_ok nmX2 hown hw m18_x h22_x rfl 4 (by decide) u_215 rfl rfl hin (by decide +kernel) rfl rfl (by rw [hlen21]; decide) dX2_init_68 (fun H locs hw => ?_)
  obtain ⟨fs23, hz23⟩ : ∃ zz9, zz9 = fs21.set 4 (.ref a2) := ⟨_, rfl⟩
  rw [← hz23] at hw
  have hlen23 : fs23.length = 11 := by rw [hz23, List.length_set]; exact hlen21
  have g23_0 : fs23[0]? = some (.ref q1) := by rw [hz23, List.getElem?_set_ne (by decide)]; exact g21_0
  have g23_1 : fs23[1]? = some (.ref q2) := by rw [hz23, List.getElem?_set_ne (by decide)]; exact g21_1
  have g23_2 : fs23[2]? = some (.int (nI 0)) := by rw [hz23, List.getElem?_set_ne (by decide)]; exact g21_2
  have g23_7 : fs23[7]? = some (.ref q3) := by rw [hz23, List.getElem?_set_ne (by decide)]; exact g21_7
  have g23_8 : fs23[8]? = some (.ref q4) := by rw [hz23, List.getElem?_set_ne (by decide)]; exact g21_8
  have g23_9 : fs23[9]? = some (.ref q5) := by rw [hz23, List.getElem?_set_ne (by decide)]; exact g21_9
  have g23_10 : fs23[10]? = some (.ref q6) := by rw [hz23, List.getElem?_set_ne (by decide)]; exact g21_10
  have g23_3 : fs23[3]? = some (.ref a1) := by rw [hz23, List.getElem?_set_ne (by decide)]; exact g21_3
  have g23_4 : fs23[4]? = some (.ref a2) := by rw [hz23, List.getElem?_set_self (by rw [hlen21]; decide)]
  obtain ⟨f24, ef24⟩ : ∃ z9 : Nat → va_E, z9 = va_up f22 x (eO 3 fs23) := ⟨_, rfl⟩
  rw [← ef24] at hw
  have eL24 : L18 = L18 := rfl
  have hf24 : ∀ q : Nat, q ≠ x → f24 q = f22 q := fun q hne => by rw [ef24]; exact va_up_ne _ _ hne
  have hof24 : ∀ q ∈ L, q ≠ x → f24 q = f q := fun q h hne => (hf24 q hne).trans (hof22 q h hne)
  have h24_q1 : f24 q1 = eJJ G 10 (fun i => if i < 10 then some (rr1 i) else none) := (hf24 _ nx_q1).trans h22_q1
  have h24_q2 : f24 q2 = eI G 10 (fun _ => 0) := (hf24 _ nx_q2).trans h22_q2
  have h24_q3 : f24 q3 = eJ G 11 (fun _ => 0) := (hf24 _ nx_q3).trans h22_q3
  have h24_q4 : f24 q4 = eJ G 11 (fun _ => 0) := (hf24 _ nx_q4).trans h22_q4
  have h24_q5 : f24 q5 = eJ G 11 (fun _ => 0) := (hf24 _ nx_q5).trans h22_q5
  have h24_q6 : f24 q6 = eJ G 11 (fun _ => 0) := (hf24 _ nx_q6).trans h22_q6
  have h24_x : f24 x = eO 3 fs23 := by rw [ef24]; exact va_up_eq _ _ _
  refine lv_aload_n hx hb dX2_init_71 rfl (lv_at hl 0 rfl) ?_
  refine lv_aload_n hx hb dX2_init_72 rfl (lv_at hl 3 rfl) ?_
  refine k_putF (own := RX2) (C := RX2) (T := TX2) (N := 11) (ci := 3) (ty := (.object "LiftFactors$CommonDivisor")) (v := .ref a3) hx hb hts inX2_u tyX2 tyX2_ok nmX2 hown hw m18_x h24_x rfl 5 (by decide) u_216 rfl rfl hin (by decide +kernel) rfl rfl (by rw [hlen23]; decide) dX2_init_73 (fun H locs hw => ?_)
  obtain ⟨fs25, hz25⟩ : ∃ zz9, zz9 = fs23.set 5 (.ref a3) := ⟨_, rfl⟩
  rw [← hz25] at hw
  have hlen25 : fs25.length = 11 := by rw [hz25, List.length_set]; exact hlen23
  have g25_0 : fs25[0]? = some (.ref q1) := by rw [hz25, List.getElem?_set_ne (by decide)]; exact g23_0
  have g25_1 : fs25[1]? = some (.ref q2) := by rw [hz25, List.getElem?_set_ne (by decide)]; exact g23_1
  have g25_2 : fs25[2]? = some (.int (nI 0)) := by rw [hz25, List.getElem?_set_ne (by decide)]; exact g23_2
  have g25_7 : fs25[7]? = some (.ref q3) := by rw [hz25, List.getElem?_set_ne (by decide)]; exact g23_7
  have g25_8 : fs25[8]? = some (.ref q4) := by rw [hz25, List.getElem?_set_ne (by decide)]; exact g23_8
  have g25_9 : fs25[9]? = some (.ref q5) := by rw [hz25, List.getElem?_set_ne (by decide)]; exact g23_9
  have g25_10 : fs25[10]? = some (.ref q6) := by rw [hz25, List.getElem?_set_ne (by decide)]; exact g23_10
  have g25_3 : fs25[3]? = some (.ref a1) := by rw [hz25, List.getElem?_set_ne (by decide)]; exact g23_3
  have g25_4 : fs25[4]? = some (.ref a2) := by rw [hz25, List.getElem?_set_ne (by decide)]; exact g23_4
  have g25_5 : fs25[5]? = some (.ref a3) := by rw [hz25, List.getElem?_set_self (by rw [hlen23]; decide)]
  obtain ⟨f26, ef26⟩ : ∃ z9 : Nat → va_E, z9 = va_up f24 x (eO 3 fs25) := ⟨_, rfl⟩
  rw [← ef26] at hw
  have eL26 : L18 = L18 := rfl
  have hf26 : ∀ q : Nat, q ≠ x → f26 q = f24 q := fun q hne => by rw [ef26]; exact va_up_ne _ _ hne
  have hof26 : ∀ q ∈ L, q ≠ x → f26 q = f q := fun q h hne => (hf26 q hne).trans (hof24 q h hne)
  have h26_q1 : f26 q1 = eJJ G 10 (fun i => if i < 10 then some (rr1 i) else none) := (hf26 _ nx_q1).trans h24_q1
  have h26_q2 : f26 q2 = eI G 10 (fun _ => 0) := (hf26 _ nx_q2).trans h24_q2
  have h26_q3 : f26 q3 = eJ G 11 (fun _ => 0) := (hf26 _ nx_q3).trans h24_q3
  have h26_q4 : f26 q4 = eJ G 11 (fun _ => 0) := (hf26 _ nx_q4).trans h24_q4
  have h26_q5 : f26 q5 = eJ G 11 (fun _ => 0) := (hf26 _ nx_q5).trans h24_q5
  have h26_q6 : f26 q6 = eJ G 11 (fun _ => 0) := (hf26 _ nx_q6).trans h24_q6
  have h26_x : f26 x = eO 3 fs25 := by rw [ef26]; exact va_up_eq _ _ _
  refine lv_aload_n hx hb dX2_init_76 rfl (lv_at hl 0 rfl) ?_
  refine lv_aload hx hb dX2_init_77 (lv_at hl 4 rfl) ?_
  refine k_putF (own := RX2) (C := RX2) (T := TX2) (N := 11) (ci := 3) (ty := (.object "LiftFactors$Splitter")) (v := .ref a4) hx hb hts inX2_u tyX2 tyX2_ok nmX2 hown hw m18_x h26_x rfl 6 (by decide) u_217 rfl rfl hin (by decide +kernel) rfl rfl (by rw [hlen25]; decide) dX2_init_79 (fun H locs hw => ?_)
  obtain ⟨fs27, hz27⟩ : ∃ zz9, zz9 = fs25.set 6 (.ref a4) := ⟨_, rfl⟩
  rw [← hz27] at hw
  have hlen27 : fs27.length = 11 := by rw [hz27, List.length_set]; exact hlen25
  have g27_0 : fs27[0]? = some (.ref q1) := by rw [hz27, List.getElem?_set_ne (by decide)]; exact g25_0
  have g27_1 : fs27[1]? = some (.ref q2) := by rw [hz27, List.getElem?_set_ne (by decide)]; exact g25_1
  have g27_2 : fs27[2]? = some (.int (nI 0)) := by rw [hz27, List.getElem?_set_ne (by decide)]; exact g25_2
  have g27_7 : fs27[7]? = some (.ref q3) := by rw [hz27, List.getElem?_set_ne (by decide)]; exact g25_7
  have g27_8 : fs27[8]? = some (.ref q4) := by rw [hz27, List.getElem?_set_ne (by decide)]; exact g25_8
  have g27_9 : fs27[9]? = some (.ref q5) := by rw [hz27, List.getElem?_set_ne (by decide)]; exact g25_9
  have g27_10 : fs27[10]? = some (.ref q6) := by rw [hz27, List.getElem?_set_ne (by decide)]; exact g25_10
  have g27_3 : fs27[3]? = some (.ref a1) := by rw [hz27, List.getElem?_set_ne (by decide)]; exact g25_3
  have g27_4 : fs27[4]? = some (.ref a2) := by rw [hz27, List.getElem?_set_ne (by decide)]; exact g25_4
  have g27_5 : fs27[5]? = some (.ref a3) := by rw [hz27, List.getElem?_set_ne (by decide)]; exact g25_5
  have g27_6 : fs27[6]? = some (.ref a4) := by rw [hz27, List.getElem?_set_self (by rw [hlen25]; decide)]
  obtain ⟨f28, ef28⟩ : ∃ z9 : Nat → va_E, z9 = va_up f26 x (eO 3 fs27) := ⟨_, rfl⟩
  rw [← ef28] at hw
  have eL28 : L18 = L18 := rfl
  have hf28 : ∀ q : Nat, q ≠ x → f28 q = f26 q := fun q hne => by rw [ef28]; exact va_up_ne _ _ hne
  have hof28 : ∀ q ∈ L, q ≠ x → f28 q = f q := fun q h hne => (hf28 q hne).trans (hof26 q h hne)
  have h28_q1 : f28 q1 = eJJ G 10 (fun i => if i < 10 then some (rr1 i) else none) := (hf28 _ nx_q1).trans h26_q1
  have h28_q2 : f28 q2 = eI G 10 (fun _ => 0) := (hf28 _ nx_q2).trans h26_q2
  have h28_q3 : f28 q3 = eJ G 11 (fun _ => 0) := (hf28 _ nx_q3).trans h26_q3
  have h28_q4 : f28 q4 = eJ G 11 (fun _ => 0) := (hf28 _ nx_q4).trans h26_q4
  have h28_q5 : f28 q5 = eJ G 11 (fun _ => 0) := (hf28 _ nx_q5).trans h26_q5
  have h28_q6 : f28 q6 = eJ G 11 (fun _ => 0) := (hf28 _ nx_q6).trans h26_q6
  have h28_x : f28 x = eO 3 fs27 := by rw [ef28]; exact va_up_eq _ _ _
  refine W.widen (k := 16) (n := 174) (by decide) (by decide) ?_
  exact w_vret (lf := fun u => u) hx hb hr hlocks (L18, f28) hw (⟨hsub18, hof28, fs27, h28_x, hlen27⟩) dX2_init_82
