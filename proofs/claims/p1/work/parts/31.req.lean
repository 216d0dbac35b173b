theorem u_97 : Cond.fieldLink RX7 25 "LiftFactors" "factorCount" "I" ∈ uU := uU_in (by decide +kernel) (by decide +kernel)
theorem inB_of {p : Int32} {n : Nat} (hn : n < 2 ^ 31) (h : inB p n = true) : ∃ j, j < n ∧ p = nI j := by
  unfold inB at h
  rw [Bool.and_eq_true, decide_eq_true_iff, decide_eq_true_iff] at h
  exact i32_range hn (i32_nlt.mpr h.1) (i32_nle.mpr h.2)
theorem inB_ok {p : Int32} {n : Nat} (h1 : ¬ p < 0) (h2 : p < nI n) : inB p n = true := by
  unfold inB; rw [decide_eq_true (i32_nlt.mp h1), decide_eq_true h2]; rfl
theorem inB_n1 {p : Int32} {n : Nat} (h : p < 0) : inB p n = false := by
  unfold inB; rw [decide_eq_false (i32_nle.mpr h)]; rfl
theorem inB_n2 {p : Int32} {n : Nat} (h : ¬ p < nI n) : inB p n = false := by
  unfold inB; rw [decide_eq_false h, Bool.and_false]
theorem lt11 {p : Int32} : p ≤ nI 10 ↔ p < nI 11 := by
  have e1 : (nI 10).toInt = 10 := rfl
  have e2 : (nI 11).toInt = 11 := rfl
  rw [Int32.le_iff_toInt_le, Int32.lt_iff_toInt_lt]; omega
set_option maxRecDepth 100000 in
set_option maxHeartbeats 4000000 in
theorem x_X7_requirePolynomial (l : Launch) (hl0 : l.stackTraces = false) (G : gG) (L : List Nat) (f : Nat → va_E) (sz : Nat) (v : Int32) :
    vx_Met l yX7_requirePolynomial (uW yX7_requirePolynomial cX7_requirePolynomial 1 none) { frames := 7, cells := 1, slots := 6, locals := 95 } (wInX G [.int v] L f sz) (va_Qv (fun (g : Nat → va_E) => inB v 80 = true ∧ g = f) (fun g => wAt G (wA L f sz) L g) (wA L f sz)) (xX G (wA L f sz) L (fun E g => E = nAI ∧ inB v 80 = false ∧ g = f)) 1 6 (wA L f sz) := by
  refine wEnterX (by decide) (Nat.le_of_ble_eq_true rfl) ?_
  intro p e s m below meth c ls cx hnt hl hsz hw hX
  obtain ⟨hx, hb, hr, hml, hown, hts, hlocks⟩ := id cx
  have hown : s.vm.findClass RX7 = some m.cls := hown
  have hl : lv_has ls 1 [(0, .int v)] := hl
  generalize wA L f sz = A at hw hX ⊢
  refine lv_iload_n hx hb dX7_requirePolynomial_0 rfl (lv_at hl 0 rfl) ?_
  refine lv_if_lt (tgt := 10) hx hb dX7_requirePolynomial_1 (by decide) (fun h => ?_) (fun h => ?_)
  · skip
    exact w_throwS (text := "no such polynomial") hx hb hl0 hown hts fit_AI fitn_3 uw_classLink_RX7_230_nAI uw_initialized_nAI (by decide +kernel) at_AI an_AI ot_AI hX hw (hl.1.trans hml.symm) dX7_requirePolynomial_10 dX7_requirePolynomial_13 dX7_requirePolynomial_14 dX7_requirePolynomial_16 dX7_requirePolynomial_19 hnt (by decide) (by decide) (by decide) (by decide) hlocks (⟨rfl, inB_n1 h, rfl⟩) (by decide) (by decide)
  · skip
    refine lv_iload_n hx hb dX7_requirePolynomial_4 rfl (lv_at hl 0 rfl) ?_
    refine lv_bipush (v := nI 80) hx hb dX7_requirePolynomial_5 (by decide) ?_
    refine lv_icmp_lt (tgt := 20) hx hb dX7_requirePolynomial_7 (by decide) (fun h2 => ?_) (fun h2 => ?_)
    · skip
      refine vx_ret ?_
      refine W.widen (k := 1) (n := 6) (by decide) (by decide) ?_
      exact w_vret (lf := fun g => (L, g)) hx hb hr hlocks f hw (⟨inB_ok h h2, rfl⟩) dX7_requirePolynomial_20
    · skip
      exact w_throwS (text := "no such polynomial") hx hb hl0 hown hts fit_AI fitn_3 uw_classLink_RX7_230_nAI uw_initialized_nAI (by decide +kernel) at_AI an_AI ot_AI hX hw (hl.1.trans hml.symm) dX7_requirePolynomial_10 dX7_requirePolynomial_13 dX7_requirePolynomial_14 dX7_requirePolynomial_16 dX7_requirePolynomial_19 hnt (by decide) (by decide) (by decide) (by decide) hlocks (⟨rfl, inB_n2 h2, rfl⟩) (by decide) (by decide)
set_option maxRecDepth 100000 in
set_option maxHeartbeats 4000000 in
theorem x_X7_requirePower (l : Launch) (hl0 : l.stackTraces = false) (G : gG) (L : List Nat) (f : Nat → va_E) (sz : Nat) (v : Int32) :
    vx_Met l yX7_requirePower (uW yX7_requirePower cX7_requirePower 1 none) { frames := 7, cells := 1, slots := 6, locals := 95 } (wInX G [.int v] L f sz) (va_Qv (fun (g : Nat → va_E) => inB v 11 = true ∧ g = f) (fun g => wAt G (wA L f sz) L g) (wA L f sz)) (xX G (wA L f sz) L (fun E g => E = nAI ∧ inB v 11 = false ∧ g = f)) 1 6 (wA L f sz) := by
  refine wEnterX (by decide) (Nat.le_of_ble_eq_true rfl) ?_
  intro p e s m below meth c ls cx hnt hl hsz hw hX
  obtain ⟨hx, hb, hr, hml, hown, hts, hlocks⟩ := id cx
  have hown : s.vm.findClass RX7 = some m.cls := hown
  have hl : lv_has ls 1 [(0, .int v)] := hl
  generalize wA L f sz = A at hw hX ⊢
  refine lv_iload_n hx hb dX7_requirePower_0 rfl (lv_at hl 0 rfl) ?_
  refine lv_if_lt (tgt := 10) hx hb dX7_requirePower_1 (by decide) (fun h => ?_) (fun h => ?_)
  · skip
    exact w_throwS (text := "no such power") hx hb hl0 hown hts fit_AI fitn_3 uw_classLink_RX7_230_nAI uw_initialized_nAI (by decide +kernel) at_AI an_AI ot_AI hX hw (hl.1.trans hml.symm) dX7_requirePower_10 dX7_requirePower_13 dX7_requirePower_14 dX7_requirePower_16 dX7_requirePower_19 hnt (by decide) (by decide) (by decide) (by decide) hlocks (⟨rfl, inB_n1 h, rfl⟩) (by decide) (by decide)
  · skip
    refine lv_iload_n hx hb dX7_requirePower_4 rfl (lv_at hl 0 rfl) ?_
    refine lv_bipush (v := nI 10) hx hb dX7_requirePower_5 (by decide) ?_
    refine lv_icmp_le (tgt := 20) hx hb dX7_requirePower_7 (by decide) (fun h2 => ?_) (fun h2 => ?_)
    · skip
      refine vx_ret ?_
      refine W.widen (k := 1) (n := 6) (by decide) (by decide) ?_
      exact w_vret (lf := fun g => (L, g)) hx hb hr hlocks f hw (⟨inB_ok h (lt11.mp h2), rfl⟩) dX7_requirePower_20
    · skip
      exact w_throwS (text := "no such power") hx hb hl0 hown hts fit_AI fitn_3 uw_classLink_RX7_230_nAI uw_initialized_nAI (by decide +kernel) at_AI an_AI ot_AI hX hw (hl.1.trans hml.symm) dX7_requirePower_10 dX7_requirePower_13 dX7_requirePower_14 dX7_requirePower_16 dX7_requirePower_19 hnt (by decide) (by decide) (by decide) (by decide) hlocks (⟨rfl, inB_n2 (fun q => h2 (lt11.mpr q)), rfl⟩) (by decide) (by decide)
set_option maxRecDepth 100000 in
set_option maxHeartbeats 4000000 in
theorem x_X7_requireFactor0 (l : Launch) (hl0 : l.stackTraces = false) (G : gG) (L : List Nat) (f : Nat → va_E) (sz : Nat) (x : Nat) (fs : List Value) (hxL : x ∈ L) (hxo : f x = eO 7 fs) (hfs4 : fs[4]? = some (.int (nI 0))) (v : Int32) :
    vx_Met l yX7_requireFactor (uW yX7_requireFactor cX7_requireFactor 2 none) { frames := 7, cells := 1, slots := 6, locals := 95 } (wInX G [.ref x, .int v] L f sz) (va_Qv (fun (g : Nat → va_E) => False) (fun g => wAt G (wA L f sz) L g) (wA L f sz)) (xX G (wA L f sz) L (fun E g => E = nAI ∧ g = f)) 1 6 (wA L f sz) := by
  refine wEnterX (by decide) (Nat.le_of_ble_eq_true rfl) ?_
  intro p e s m below meth c ls cx hnt hl hsz hw hX
  obtain ⟨hx, hb, hr, hml, hown, hts, hlocks⟩ := id cx
  have hown : s.vm.findClass RX7 = some m.cls := hown
  have hl : lv_has ls 2 [(0, .ref x), (1, .int v)] := hl
  generalize wA L f sz = A at hw hX ⊢
  refine lv_iload_n hx hb dX7_requireFactor_0 rfl (lv_at hl 1 rfl) ?_
  refine lv_if_lt (tgt := 12) hx hb dX7_requireFactor_1 (by decide) (fun h => ?_) (fun h => ?_)
  · skip
    exact w_throwS (text := "no such factor") hx hb hl0 hown hts fit_AI fitn_3 uw_classLink_RX7_230_nAI uw_initialized_nAI (by decide +kernel) at_AI an_AI ot_AI hX hw (hl.1.trans hml.symm) dX7_requireFactor_12 dX7_requireFactor_15 dX7_requireFactor_16 dX7_requireFactor_18 dX7_requireFactor_21 hnt (by decide) (by decide) (by decide) (by decide) hlocks (⟨rfl, rfl⟩) (by decide) (by decide)
  · skip
    refine lv_iload_n hx hb dX7_requireFactor_4 rfl (lv_at hl 1 rfl) ?_
    refine lv_aload_n hx hb dX7_requireFactor_5 rfl (lv_at hl 0 rfl) ?_
    refine w_get (C := RX7) (T := TX7) (N := 15) (ci := 7) (ref := "LiftFactors") (v := .int (nI 0)) hx hb hts inX7_u hown hw hxL hxo rfl 4 (by decide) u_97 rfl hfs4 dX7_requireFactor_6 ?_
    refine lv_icmp_lt (tgt := 22) hx hb dX7_requireFactor_9 (by decide) (fun h2 => ?_) (fun h2 => ?_)
    · skip
      exact absurd h2 (by rw [nI_0]; exact h)
    · skip
      exact w_throwS (text := "no such factor") hx hb hl0 hown hts fit_AI fitn_3 uw_classLink_RX7_230_nAI uw_initialized_nAI (by decide +kernel) at_AI an_AI ot_AI hX hw (hl.1.trans hml.symm) dX7_requireFactor_12 dX7_requireFactor_15 dX7_requireFactor_16 dX7_requireFactor_18 dX7_requireFactor_21 hnt (by decide) (by decide) (by decide) (by decide) hlocks (⟨rfl, rfl⟩) (by decide) (by decide)
set_option maxRecDepth 100000 in
set_option maxHeartbeats 4000000 in
theorem c_X7_requireNumber0 (l : Launch) (G : gG) (L : List Nat) (f : Nat → va_E) (sz : Nat) (x : Nat) (fs : List Value) (hxL : x ∈ L) (hxo : f x = eO 7 fs) (hfs1 : fs[1]? = some (.int (nI 0))) :
    Met l yX7_requireNumber (uW yX7_requireNumber cX7_requireNumber 1 none) { frames := 0, cells := 0, slots := 0, locals := 0 } (wIn G [.ref x] L f sz) (va_Qv (fun (g : Nat → va_E) => g = f) (fun g => wAt G (wA L f sz) L g) (wA L f sz)) 0 0 (wA L f sz) := by
  refine wEnter (by decide) (Nat.le_of_ble_eq_true rfl) ?_
  intro p e s m below meth c ls cx hinit hl hsz hw
  obtain ⟨hx, hb, hr, hml, hown, hts, hlocks⟩ := id cx
  have hown : s.vm.findClass RX7 = some m.cls := hown
  have hl : lv_has ls 1 [(0, .ref x)] := hl
  generalize wA L f sz = A at hw ⊢
  refine lv_aload_n hx hb dX7_requireNumber_0 rfl (lv_at hl 0 rfl) ?_
  refine w_get (C := RX7) (T := TX7) (N := 15) (ci := 7) (ref := "LiftFactors") (v := .int (nI 0)) hx hb hts inX7_u hown hw hxL hxo rfl 1 (by decide) u_1 rfl hfs1 dX7_requireNumber_1 ?_
  refine lv_bipush (v := nI 80) hx hb dX7_requireNumber_4 (by decide) ?_
  refine lv_icmp_lt (tgt := 19) hx hb dX7_requireNumber_6 (by decide) (fun _ => ?_) (fun h => absurd (by decide) h)
  exact w_vret (lf := fun g => (L, g)) hx hb hr hlocks f hw (rfl) dX7_requireNumber_19
