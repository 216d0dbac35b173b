theorem u_26 : Cond.fieldLink RX8 45 "LiftFactorsModel" "thrown" "I" ∈ uU := uU_in (by decide +kernel) (by decide +kernel)
theorem u_27 : Cond.fieldLink RX8 22 "LiftFactorsModel" "w" "[J" ∈ uU := uU_in (by decide +kernel) (by decide +kernel)
theorem u_28 : Cond.fieldLink RX8 26 "LiftFactorsModel" "deg" "[I" ∈ uU := uU_in (by decide +kernel) (by decide +kernel)
theorem u_29 : Cond.fieldLink RX8 13 "LiftFactorsModel" "coefficient" "[I" ∈ uU := uU_in (by decide +kernel) (by decide +kernel)
theorem u_30 : Cond.methodLink RX8 57 yX8_trim ∈ uU := uU_in (by decide +kernel) (by decide +kernel)
theorem u_31 : Cond.instanceMethod yX8_trim ∈ uU := uU_in (by decide +kernel) (by decide +kernel)
theorem u_32 : Cond.selects yX8_trim.cls yX8_trim yX8_trim ∈ uU := uU_in (by decide +kernel) (by decide +kernel)
theorem u_33 : Cond.initialized yX8_trim.cls ∈ uU := uU_in (by decide +kernel) (by decide +kernel)
theorem u_34 : Cond.code yX8_trim cX8_trim 4 none ∈ uU := uU_in (by decide +kernel) (by decide +kernel)
/-- n places from base on as in v -/
def updB {α : Type} (r : Nat → α) (base : Nat) (v : Nat → α) (n : Nat) : Nat → α := fun j => if base ≤ j ∧ j < base + n then v (j - base) else r j
theorem updB_0 {α : Type} (r : Nat → α) (b : Nat) (v : Nat → α) : updB r b v 0 = r := by
  funext j; unfold updB; rw [if_neg (by omega)]
theorem updB_aux {α : Type} (r : Nat → α) (b : Nat) (v : Nat → α) (k : Nat) : (fun j => if j = b + k then v k else updB r b v k j) = updB r b v (k + 1) := by
  funext j
  unfold updB
  by_cases h : j = b + k
  · subst h
    rw [if_pos rfl, if_pos (by omega), show b + k - b = k by omega]
  · rw [if_neg h]
    by_cases h2 : b ≤ j ∧ j < b + k
    · rw [if_pos h2, if_pos (by omega)]
    · rw [if_neg h2, if_neg (by omega)]
theorem updB_sL (r : Nat → Int64) (b : Nat) (v : Nat → Int64) (k : Nat) : vp_updL (updB r b v k) (b + k) (v k) = updB r b v (k + 1) := updB_aux r b v k
theorem updB_sI (r : Nat → Int32) (b : Nat) (v : Nat → Int32) (k : Nat) : upd (updB r b v k) (b + k) (v k) = updB r b v (k + 1) := by
  rw [← updB_aux r b v k]; funext j; simp [upd]
theorem i32_range {p : Int32} {n : Nat} (hn : n < 2 ^ 31) (h1 : ¬ p < 0) (h2 : ¬ nI n ≤ p) : ∃ j, j < n ∧ p = nI j := by
  rcases pk_ix p hn with h | h | h
  · exact absurd h h1
  · exact absurd h h2
  · exact h
theorem i32_out {p : Int32} {n : Nat} (hn : n < 2 ^ 31) (h : p < 0 ∨ nI n ≤ p) : ∀ j, j < n → p ≠ nI j := by
  intro j hj e
  subst e
  rcases h with h | h
  · exact absurd h (nI_pos (by omega))
  · exact absurd h (nI_ge hj hn)
set_option maxRecDepth 100000 in
set_option maxHeartbeats 4000000 in
theorem c_X8_isPoly (l : Launch) (G : gG) (L : List Nat) (f : Nat → va_E) (sz : Nat) (v : Int32) :
    Met l yX8_isPoly (uW yX8_isPoly cX8_isPoly 1 (some .boolean)) { frames := 0, cells := 0, slots := 0, locals := 0 } (wIn G [.int v] L f sz) (va_Qi (fun (r9 : Int32) (g : Nat → va_E) => ((r9 = nI 1 ∧ ∃ j, j < 80 ∧ v = nI j) ∨ (r9 = nI 0 ∧ ∀ j, j < 80 → v ≠ nI j)) ∧ g = f) (fun g => wAt G (wA L f sz) L g) (wA L f sz)) 0 0 (wA L f sz) := by
  refine wEnter (by decide) (Nat.le_of_ble_eq_true rfl) ?_
  intro p e s m below meth c ls cx hinit hl hsz hw
  obtain ⟨hx, hb, hr, hml, hown, hts, hlocks⟩ := id cx
  have hown : s.vm.findClass RX8 = some m.cls := hown
  have hl : lv_has ls 1 [(0, .int v)] := hl
  generalize wA L f sz = A at hw ⊢
  refine lv_iload_n hx hb dX8_isPoly_0 rfl (lv_at hl 0 rfl) ?_
  refine lv_if_lt (tgt := 14) hx hb dX8_isPoly_1 (by decide) (fun h => ?_) (fun h => ?_)
  · skip
    refine lv_iconst (v := nI 0) hx hb dX8_isPoly_14 (by decide) ?_
    exact w_zret (lf := fun g => (L, g)) hx hb hr hlocks (by first | rfl | decide) f hw (⟨Or.inr ⟨rfl, i32_out (by decide) (Or.inl h)⟩, rfl⟩) dX8_isPoly_15
  · skip
    refine lv_iload_n hx hb dX8_isPoly_4 rfl (lv_at hl 0 rfl) ?_
    refine lv_bipush (v := nI 80) hx hb dX8_isPoly_5 (by decide) ?_
    refine lv_icmp_ge (tgt := 14) hx hb dX8_isPoly_7 (by decide) (fun h2 => ?_) (fun h2 => ?_)
    · skip
      refine lv_iconst (v := nI 0) hx hb dX8_isPoly_14 (by decide) ?_
      exact w_zret (lf := fun g => (L, g)) hx hb hr hlocks (by first | rfl | decide) f hw (⟨Or.inr ⟨rfl, i32_out (by decide) (Or.inr h2)⟩, rfl⟩) dX8_isPoly_15
    · skip
      refine lv_iconst (v := nI 1) hx hb dX8_isPoly_10 (by decide) ?_
      refine lv_goto (tgt := 15) hx hb dX8_isPoly_11 (by decide) ?_
      exact w_zret (lf := fun g => (L, g)) hx hb hr hlocks (by first | rfl | decide) f hw (⟨Or.inl ⟨rfl, i32_range (by decide) h h2⟩, rfl⟩) dX8_isPoly_15
set_option maxRecDepth 100000 in
set_option maxHeartbeats 4000000 in
theorem c_X8_isPower (l : Launch) (G : gG) (L : List Nat) (f : Nat → va_E) (sz : Nat) (v : Int32) :
    Met l yX8_isPower (uW yX8_isPower cX8_isPower 1 (some .boolean)) { frames := 0, cells := 0, slots := 0, locals := 0 } (wIn G [.int v] L f sz) (va_Qi (fun (r9 : Int32) (g : Nat → va_E) => ((r9 = nI 1 ∧ ∃ j, j < 11 ∧ v = nI j) ∨ (r9 = nI 0 ∧ ∀ j, j < 11 → v ≠ nI j)) ∧ g = f) (fun g => wAt G (wA L f sz) L g) (wA L f sz)) 0 0 (wA L f sz) := by
  refine wEnter (by decide) (Nat.le_of_ble_eq_true rfl) ?_
  intro p e s m below meth c ls cx hinit hl hsz hw
  obtain ⟨hx, hb, hr, hml, hown, hts, hlocks⟩ := id cx
  have hown : s.vm.findClass RX8 = some m.cls := hown
  have hl : lv_has ls 1 [(0, .int v)] := hl
  generalize wA L f sz = A at hw ⊢
  refine lv_iload_n hx hb dX8_isPower_0 rfl (lv_at hl 0 rfl) ?_
  refine lv_if_lt (tgt := 14) hx hb dX8_isPower_1 (by decide) (fun h => ?_) (fun h => ?_)
  · skip
    refine lv_iconst (v := nI 0) hx hb dX8_isPower_14 (by decide) ?_
    exact w_zret (lf := fun g => (L, g)) hx hb hr hlocks (by first | rfl | decide) f hw (⟨Or.inr ⟨rfl, i32_out (by decide) (Or.inl h)⟩, rfl⟩) dX8_isPower_15
  · skip
    refine lv_iload_n hx hb dX8_isPower_4 rfl (lv_at hl 0 rfl) ?_
    refine lv_bipush (v := nI 11) hx hb dX8_isPower_5 (by decide) ?_
    refine lv_icmp_ge (tgt := 14) hx hb dX8_isPower_7 (by decide) (fun h2 => ?_) (fun h2 => ?_)
    · skip
      refine lv_iconst (v := nI 0) hx hb dX8_isPower_14 (by decide) ?_
      exact w_zret (lf := fun g => (L, g)) hx hb hr hlocks (by first | rfl | decide) f hw (⟨Or.inr ⟨rfl, i32_out (by decide) (Or.inr h2)⟩, rfl⟩) dX8_isPower_15
    · skip
      refine lv_iconst (v := nI 1) hx hb dX8_isPower_10 (by decide) ?_
      refine lv_goto (tgt := 15) hx hb dX8_isPower_11 (by decide) ?_
      exact w_zret (lf := fun g => (L, g)) hx hb hr hlocks (by first | rfl | decide) f hw (⟨Or.inl ⟨rfl, i32_range (by decide) h h2⟩, rfl⟩) dX8_isPower_15
set_option maxRecDepth 100000 in
set_option maxHeartbeats 4000000 in
theorem c_X8_thrown (l : Launch) (G : gG) (L : List Nat) (f : Nat → va_E) (sz : Nat) (x : Nat) (fs : List Value) (hxL : x ∈ L) (hxo : f x = eO 8 fs) (th : Int32) (hfs3 : fs[3]? = some (.int th)) :
    Met l yX8_thrown (uW yX8_thrown cX8_thrown 1 (some .int)) { frames := 0, cells := 0, slots := 0, locals := 0 } (wIn G [.ref x] L f sz) (va_Qi (fun (r9 : Int32) (g : Nat → va_E) => r9 = th ∧ g = f) (fun g => wAt G (wA L f sz) L g) (wA L f sz)) 0 0 (wA L f sz) := by
  refine wEnter (by decide) (Nat.le_of_ble_eq_true rfl) ?_
  intro p e s m below meth c ls cx hinit hl hsz hw
  obtain ⟨hx, hb, hr, hml, hown, hts, hlocks⟩ := id cx
  have hown : s.vm.findClass RX8 = some m.cls := hown
  have hl : lv_has ls 1 [(0, .ref x)] := hl
  generalize wA L f sz = A at hw ⊢
  refine lv_aload_n hx hb dX8_thrown_0 rfl (lv_at hl 0 rfl) ?_
  refine w_get (C := RX8) (T := TX8) (N := 18) (ci := 8) (ref := "LiftFactorsModel") (v := .int th) hx hb hts inX8_u hown hw hxL hxo rfl 3 (by decide) u_26 rfl hfs3 dX8_thrown_1 ?_
  exact w_iret (lf := fun g => (L, g)) hx hb hr hlocks f hw (⟨rfl, rfl⟩) dX8_thrown_4
set_option maxRecDepth 100000 in
set_option maxHeartbeats 4000000 in
theorem lp_X8_trim {p : Program} {l : Launch} {e : Env} {R : Room} {s : State} {m : MethodId} {args : Array Value} {below : List Frame} {meth : Method} {c : Code} {cells slots : Nat} {Q : State → Prop} {G : gG} {A : Nat → Prop} {H0 : Heap} {L : List Nat} (hx : p.tables.exec = Jvm.exec) (hb : c.code = cX8_trim) (hown : s.vm.findClass RX8 = some m.cls) (hts : ∀ w ∈ uU, w.before args s = true) {f : Nat → va_E} {H : Heap} {locs : List Loc} (hw : wH G A H0 s L f H locs) {x ww dd S t : Nat} {fs : List Value} {wr : Nat → Int64} {dr : Nat → Int32} {tp : Int32} (hxL : x ∈ L) (hxo : f x = eO 8 fs) (hfs7 : fs[7]? = some (.ref ww)) (hfs8 : fs[8]? = some (.ref dd)) (hwL : ww ∈ L) (hww : f ww = eJ G 1440 wr) (hdL : dd ∈ L) (hdd : f dd = eI G 60 dr) (hS : S < 60) (ht : t ≤ 24) (htp : tp = nI t - nI 1) (kk : ∀ ls, lv_has ls 4 [(3, .int (nI (dgp (fun k => wr (24 * S + k)) t) - nI 1)), (0, .ref x), (1, .int (nI S))] → W p l e R s m args below meth c H locs cells slots Q (F0 m 28 ls [])) :
    ∀ j : Nat, j ≤ t → dgp (fun k => wr (24 * S + k)) t = dgp (fun k => wr (24 * S + k)) j → ∀ ls : Array Slot, lv_has ls 4 [(3, .int (nI j - nI 1)), (0, .ref x), (1, .int (nI S)), (2, .int tp)] → W p l e R s m args below meth c H locs cells slots Q (F0 m 2 ls []) := by
  intro j
  induction j with
  | zero =>
    intro _ hd ls hl
    refine lv_iload_n hx hb dX8_trim_2 rfl (lv_at hl 0 rfl) ?_
    refine lv_if_lt (tgt := 28) hx hb dX8_trim_3 (by decide) (fun _ => ?_) (fun h => absurd nI_m1_neg h)
    exact kk ls (by rw [hd]; exact lv_sub hl [0, 1, 2] rfl)
  | succ j ih =>
    intro hj hd ls hl
    refine lv_iload_n hx hb dX8_trim_2 rfl (lv_at hl 0 rfl) ?_
    refine lv_if_lt (tgt := 28) hx hb dX8_trim_3 (by decide) (fun h => absurd h (by rw [nI_sub1]; exact nI_pos (by omega))) (fun _ => ?_)
    refine lv_aload_n hx hb dX8_trim_6 rfl (lv_at hl 1 rfl) ?_
    refine w_get (C := RX8) (T := TX8) (N := 18) (ci := 8) (ref := "LiftFactorsModel") (v := .ref ww) hx hb hts inX8_u hown hw hxL hxo rfl 7 (by decide) u_27 rfl hfs7 dX8_trim_7 ?_
    refine lv_bipush (v := nI 24) hx hb dX8_trim_10 (by decide) ?_
    refine lv_iload_n hx hb dX8_trim_12 rfl (lv_at hl 2 rfl) ?_
    refine lv_imul hx hb dX8_trim_13 ?_
    refine w_ti (y := nI (24 * S)) (pk_mul _ _) ?_
    refine lv_iload_n hx hb dX8_trim_14 rfl (lv_at hl 0 rfl) ?_
    refine w_ti (nI_sub1 j) ?_
    refine lv_iadd hx hb dX8_trim_15 ?_
    refine w_ti (y := nI ((24 * S) + j)) (nI_add _ _) ?_
    refine n_lald hx hb hw hwL hww ((24 * S) + j) (by omega) (by omega) dX8_trim_16 ?_
    refine lv_lconst (v := 0) hx hb dX8_trim_17 (by decide) ?_
    refine n_lcmp_ne (tgt := 28) hx hb dX8_trim_18 dX8_trim_19 (by decide) (fun h => ?_) (fun h => ?_)
    · skip
      exact kk ls (by rw [hd, show dgp (fun k => wr (24 * S + k)) (j + 1) = j + 1 from if_neg h]; exact lv_sub hl [0, 1, 2] rfl)
    · skip
      refine lv_iinc (v := nI j - nI 1) (lv' := [(3, .int (nI j - nI 1)), (0, .ref x), (1, .int (nI S)), (2, .int tp)]) hx hb dX8_trim_22 hl (k := 0) rfl (by rw [nI_sub1]; exact nI_dec1 j) (by decide) rfl (fun ls hl => ?_)
      refine lv_goto (tgt := 2) hx hb dX8_trim_25 (by decide) ?_
      exact ih (by omega) (hd.trans (if_pos h)) ls hl
set_option maxRecDepth 100000 in
set_option maxHeartbeats 4000000 in
theorem c_X8_trim (l : Launch) (G : gG) (L : List Nat) (f : Nat → va_E) (sz : Nat) (x ww dd S t : Nat) (fs : List Value) (wr : Nat → Int64) (dr : Nat → Int32) (tp : Int32) (hxL : x ∈ L) (hxo : f x = eO 8 fs) (hfs7 : fs[7]? = some (.ref ww)) (hfs8 : fs[8]? = some (.ref dd)) (hwL : ww ∈ L) (hww : f ww = eJ G 1440 wr) (hdL : dd ∈ L) (hdd : f dd = eI G 60 dr) (hS : S < 60) (ht : t ≤ 24) (htp : tp = nI t - nI 1) :
    Met l yX8_trim (uW yX8_trim cX8_trim 4 none) { frames := 0, cells := 0, slots := 0, locals := 0 } (wIn G [.ref x, .int (nI S), .int tp] L f sz) (va_Qv (fun (g : Nat → va_E) => g = va_up f dd (eI G 60 (upd dr S (nI (dgp (fun k => wr (24 * S + k)) t) - nI 1)))) (fun g => wAt G (wA L f sz) L g) (wA L f sz)) 0 0 (wA L f sz) := by
  refine wEnter (by decide) (Nat.le_of_ble_eq_true rfl) ?_
  intro p e s m below meth c ls cx hinit hl hsz hw
  obtain ⟨hx, hb, hr, hml, hown, hts, hlocks⟩ := id cx
  have hown : s.vm.findClass RX8 = some m.cls := hown
  have hl : lv_has ls 4 [(0, .ref x), (1, .int (nI S)), (2, .int tp)] := hl
  generalize wA L f sz = A at hw ⊢
  refine lv_iload_n hx hb dX8_trim_0 rfl (lv_at hl 2 rfl) ?_
  refine lv_istore_n (lv' := [(3, .int tp), (0, .ref x), (1, .int (nI S)), (2, .int tp)]) hx hb dX8_trim_1 rfl hl (by decide) rfl (fun ls hl => ?_)
  refine lp_X8_trim hx hb hown hts hw hxL hxo hfs7 hfs8 hwL hww hdL hdd hS ht htp (fun ls hl => ?_) t (Nat.le_refl t) rfl ls (by rw [← htp]; exact hl)
  refine lv_aload_n hx hb dX8_trim_28 rfl (lv_at hl 1 rfl) ?_
  refine w_get (C := RX8) (T := TX8) (N := 18) (ci := 8) (ref := "LiftFactorsModel") (v := .ref dd) hx hb hts inX8_u hown hw hxL hxo rfl 8 (by decide) u_28 rfl hfs8 dX8_trim_29 ?_
  refine lv_iload_n hx hb dX8_trim_32 rfl (lv_at hl 2 rfl) ?_
  refine lv_iload_n hx hb dX8_trim_33 rfl (lv_at hl 0 rfl) ?_
  refine n_iast hx hb hw hdL hdd S (by omega) (by omega) dX8_trim_34 (fun H locs hw => ?_)
  exact w_vret (lf := fun g => (L, g)) hx hb hr hlocks _ hw (rfl) dX8_trim_35
set_option maxRecDepth 100000 in
set_option maxHeartbeats 4000000 in
theorem c_X8_get (l : Launch) (G : gG) (L : List Nat) (f : Nat → va_E) (sz : Nat) (x ww dd S K : Nat) (fs : List Value) (wr : Nat → Int64) (dr : Nat → Int32) (hxL : x ∈ L) (hxo : f x = eO 8 fs) (hfs7 : fs[7]? = some (.ref ww)) (hfs8 : fs[8]? = some (.ref dd)) (hwL : ww ∈ L) (hww : f ww = eJ G 1440 wr) (hdL : dd ∈ L) (hdd : f dd = eI G 60 dr) (hS : S < 60) (hK : K < 24) :
    Met l yX8_get (uW yX8_get cX8_get 3 (some .long)) { frames := 0, cells := 0, slots := 0, locals := 0 } (wIn G [.ref x, .int (nI S), .int (nI K)] L f sz) (va_Ql (fun (r9 : Int64) (g : Nat → va_E) => r9 = (if nI K ≤ dr S then wr (24 * S + K) else 0) ∧ g = f) (fun g => wAt G (wA L f sz) L g) (wA L f sz)) 0 0 (wA L f sz) := by
  refine wEnter (by decide) (Nat.le_of_ble_eq_true rfl) ?_
  intro p e s m below meth c ls cx hinit hl hsz hw
  obtain ⟨hx, hb, hr, hml, hown, hts, hlocks⟩ := id cx
  have hown : s.vm.findClass RX8 = some m.cls := hown
  have hl : lv_has ls 3 [(0, .ref x), (1, .int (nI S)), (2, .int (nI K))] := hl
  generalize wA L f sz = A at hw ⊢
  refine lv_iload_n hx hb dX8_get_0 rfl (lv_at hl 2 rfl) ?_
  refine lv_aload_n hx hb dX8_get_1 rfl (lv_at hl 0 rfl) ?_
  refine w_get (C := RX8) (T := TX8) (N := 18) (ci := 8) (ref := "LiftFactorsModel") (v := .ref dd) hx hb hts inX8_u hown hw hxL hxo rfl 8 (by decide) u_28 rfl hfs8 dX8_get_2 ?_
  refine lv_iload_n hx hb dX8_get_5 rfl (lv_at hl 1 rfl) ?_
  refine n_iald hx hb hw hdL hdd S (by omega) (by omega) dX8_get_6 ?_
  refine lv_icmp_le (tgt := 14) hx hb dX8_get_7 (by decide) (fun h => ?_) (fun h => ?_)
  · skip
    refine lv_aload_n hx hb dX8_get_14 rfl (lv_at hl 0 rfl) ?_
    refine w_get (C := RX8) (T := TX8) (N := 18) (ci := 8) (ref := "LiftFactorsModel") (v := .ref ww) hx hb hts inX8_u hown hw hxL hxo rfl 7 (by decide) u_27 rfl hfs7 dX8_get_15 ?_
    refine lv_bipush (v := nI 24) hx hb dX8_get_18 (by decide) ?_
    refine lv_iload_n hx hb dX8_get_20 rfl (lv_at hl 1 rfl) ?_
    refine lv_imul hx hb dX8_get_21 ?_
    refine w_ti (y := nI (24 * S)) (pk_mul _ _) ?_
    refine lv_iload_n hx hb dX8_get_22 rfl (lv_at hl 2 rfl) ?_
    refine lv_iadd hx hb dX8_get_23 ?_
    refine w_ti (y := nI ((24 * S) + K)) (nI_add _ _) ?_
    refine n_lald hx hb hw hwL hww ((24 * S) + K) (by omega) (by omega) dX8_get_24 ?_
    exact w_lret (lf := fun g => (L, g)) hx hb hr hlocks f hw (⟨(if_pos h).symm, rfl⟩) dX8_get_25
  · skip
    refine lv_lconst (v := 0) hx hb dX8_get_10 (by decide) ?_
    refine lv_goto (tgt := 25) hx hb dX8_get_11 (by decide) ?_
    exact w_lret (lf := fun g => (L, g)) hx hb hr hlocks f hw (⟨(if_neg h).symm, rfl⟩) dX8_get_25
set_option maxRecDepth 100000 in
set_option maxHeartbeats 4000000 in
theorem c_X8_constant0 (l : Launch) (G : gG) (L : List Nat) (f : Nat → va_E) (sz : Nat) (x ww dd S : Nat) (fs : List Value) (wr : Nat → Int64) (dr : Nat → Int32) (hxL : x ∈ L) (hxo : f x = eO 8 fs) (hfs7 : fs[7]? = some (.ref ww)) (hfs8 : fs[8]? = some (.ref dd)) (hwL : ww ∈ L) (hww : f ww = eJ G 1440 wr) (hdL : dd ∈ L) (hdd : f dd = eI G 60 dr) (hS : S < 60) :
    Met l yX8_constant (uW yX8_constant cX8_constant 4 none) { frames := 0, cells := 0, slots := 0, locals := 0 } (wIn G [.ref x, .int (nI S), .long 0] L f sz) (va_Qv (fun (g : Nat → va_E) => g = va_up (va_up f ww (eJ G 1440 (vp_updL wr (24 * S) 0))) dd (eI G 60 (upd dr S (-1)))) (fun g => wAt G (wA L f sz) L g) (wA L f sz)) 0 0 (wA L f sz) := by
  refine wEnter (by decide) (Nat.le_of_ble_eq_true rfl) ?_
  intro p e s m below meth c ls cx hinit hl hsz hw
  obtain ⟨hx, hb, hr, hml, hown, hts, hlocks⟩ := id cx
  have hown : s.vm.findClass RX8 = some m.cls := hown
  have hl : lv_has ls 4 [(0, .ref x), (1, .int (nI S)), (2, .long 0)] := hl
  generalize wA L f sz = A at hw ⊢
  have hne_x : x ≠ ww := ne_E hww hxo (by simp)
  have hne_dd : dd ≠ ww := ne_E hww hdd (by simp)
  refine lv_aload_n hx hb dX8_constant_0 rfl (lv_at hl 0 rfl) ?_
  refine w_get (C := RX8) (T := TX8) (N := 18) (ci := 8) (ref := "LiftFactorsModel") (v := .ref ww) hx hb hts inX8_u hown hw hxL hxo rfl 7 (by decide) u_27 rfl hfs7 dX8_constant_1 ?_
  refine lv_bipush (v := nI 24) hx hb dX8_constant_4 (by decide) ?_
  refine lv_iload_n hx hb dX8_constant_6 rfl (lv_at hl 1 rfl) ?_
  refine lv_imul hx hb dX8_constant_7 ?_
  refine w_ti (y := nI (24 * S)) (pk_mul _ _) ?_
  refine lv_lload_n hx hb dX8_constant_8 rfl (lv_at hl 2 rfl) ?_
  refine n_last hx hb hw hwL hww (24 * S) (by omega) (by omega) dX8_constant_9 (fun H locs hw => ?_)
  refine lv_aload_n hx hb dX8_constant_10 rfl (lv_at hl 0 rfl) ?_
  refine w_get (C := RX8) (T := TX8) (N := 18) (ci := 8) (ref := "LiftFactorsModel") (v := .ref dd) hx hb hts inX8_u hown hw hxL ((va_up_ne _ _ hne_x).trans hxo) rfl 8 (by decide) u_28 rfl hfs8 dX8_constant_11 ?_
  refine lv_iload_n hx hb dX8_constant_14 rfl (lv_at hl 1 rfl) ?_
  refine lv_lload_n hx hb dX8_constant_15 rfl (lv_at hl 2 rfl) ?_
  refine lv_lconst (v := 0) hx hb dX8_constant_16 (by decide) ?_
  refine n_lcmp_ne (tgt := 25) hx hb dX8_constant_17 dX8_constant_18 (by decide) (fun h => ?_) (fun h => ?_)
  · skip
    exact absurd rfl h
  · skip
    refine lv_iconst (v := (-1)) hx hb dX8_constant_21 (by decide) ?_
    refine lv_goto (tgt := 26) hx hb dX8_constant_22 (by decide) ?_
    refine n_iast hx hb hw hdL ((va_up_ne _ _ hne_dd).trans hdd) S (by omega) (by omega) dX8_constant_26 (fun H locs hw => ?_)
    exact w_vret (lf := fun g => (L, g)) hx hb hr hlocks _ hw (rfl) dX8_constant_27
set_option maxRecDepth 100000 in
set_option maxHeartbeats 4000000 in
theorem lp_X8_load {p : Program} {l : Launch} {e : Env} {R : Room} {s : State} {m : MethodId} {args : Array Value} {below : List Frame} {meth : Method} {c : Code} {cells slots : Nat} {Q : State → Prop} {G : gG} {A : Nat → Prop} {H0 : Heap} {L : List Nat} (hx : p.tables.exec = Jvm.exec) (hb : c.code = cX8_load) (hown : s.vm.findClass RX8 = some m.cls) (hts : ∀ w ∈ uU, w.before args s = true) {f : Nat → va_E} {x ww dd ca S j : Nat} {fs : List Value} {wr : Nat → Int64} {dr cv : Nat → Int32} (hxL : x ∈ L) (hxo : f x = eO 8 fs) (hfs1 : fs[1]? = some (.ref ca)) (hfs7 : fs[7]? = some (.ref ww)) (hfs8 : fs[8]? = some (.ref dd)) (hwL : ww ∈ L) (hww : f ww = eJ G 1440 wr) (hdL : dd ∈ L) (hdd : f dd = eI G 60 dr) (hcL : ca ∈ L) (hca : f ca = eI G 880 cv) (hS : S < 60) (hj : j < 80) (kk : ∀ H locs ls, wH G A H0 s L (va_up f ww (eJ G 1440 (updB wr (24 * S) (fun k => (cv (11 * j + k)).toInt64) 11))) H locs → lv_has ls 4 [(0, .ref x), (1, .int (nI j)), (2, .int (nI S))] → W p l e R s m args below meth c H locs cells slots Q (F0 m 37 ls [])) :
    ∀ (d k : Nat) (H : Heap) (locs : List Loc) (ls : Array Slot), k ≤ 11 → 11 + 1 ≤ k + d → wH G A H0 s L (va_up f ww (eJ G 1440 (updB wr (24 * S) (fun k => (cv (11 * j + k)).toInt64) k))) H locs → lv_has ls 4 [(3, .int (nI k)), (0, .ref x), (1, .int (nI j)), (2, .int (nI S))] → W p l e R s m args below meth c H locs cells slots Q (F0 m 2 ls []) := by
  have hne_x : x ≠ ww := ne_E hww hxo (by simp)
  have hne_dd : dd ≠ ww := ne_E hww hdd (by simp)
  have hne_ca : ca ≠ ww := ne_E hww hca (by simp)
  intro d
  induction d with
  | zero => intro k H locs ls h1 h2; exact absurd h2 (by omega)
  | succ d ih =>
    intro k H locs ls hk hd hw hl
    refine lv_iload_n hx hb dX8_load_2 rfl (lv_at hl 0 rfl) ?_
    refine lv_bipush (v := nI 11) hx hb dX8_load_3 (by decide) ?_
    refine n_icmp_ge (tgt := 37) hx hb (by omega) (by omega) dX8_load_5 (by decide) (fun h => ?_) (fun h => ?_)
    · skip
      rw [show k = 11 by omega] at hw
      exact kk H locs ls hw (lv_sub hl [1, 2, 3] rfl)
    · skip
      refine lv_aload_n hx hb dX8_load_8 rfl (lv_at hl 1 rfl) ?_
      refine w_get (C := RX8) (T := TX8) (N := 18) (ci := 8) (ref := "LiftFactorsModel") (v := .ref ww) hx hb hts inX8_u hown hw hxL ((va_up_ne _ _ (hne_x)).trans hxo) rfl 7 (by decide) u_27 rfl hfs7 dX8_load_9 ?_
      refine lv_bipush (v := nI 24) hx hb dX8_load_12 (by decide) ?_
      refine lv_iload_n hx hb dX8_load_14 rfl (lv_at hl 3 rfl) ?_
      refine lv_imul hx hb dX8_load_15 ?_
      refine w_ti (y := nI (24 * S)) (pk_mul _ _) ?_
      refine lv_iload_n hx hb dX8_load_16 rfl (lv_at hl 0 rfl) ?_
      refine lv_iadd hx hb dX8_load_17 ?_
      refine w_ti (y := nI ((24 * S) + k)) (nI_add _ _) ?_
      refine lv_aload_n hx hb dX8_load_18 rfl (lv_at hl 1 rfl) ?_
      refine w_get (C := RX8) (T := TX8) (N := 18) (ci := 8) (ref := "LiftFactorsModel") (v := .ref ca) hx hb hts inX8_u hown hw hxL ((va_up_ne _ _ (hne_x)).trans hxo) rfl 1 (by decide) u_29 rfl hfs1 dX8_load_19 ?_
      refine lv_bipush (v := nI 11) hx hb dX8_load_22 (by decide) ?_
      refine lv_iload_n hx hb dX8_load_24 rfl (lv_at hl 2 rfl) ?_
      refine lv_imul hx hb dX8_load_25 ?_
      refine w_ti (y := nI (11 * j)) (pk_mul _ _) ?_
      refine lv_iload_n hx hb dX8_load_26 rfl (lv_at hl 0 rfl) ?_
      refine lv_iadd hx hb dX8_load_27 ?_
      refine w_ti (y := nI ((11 * j) + k)) (nI_add _ _) ?_
      refine n_iald hx hb hw hcL ((va_up_ne _ _ (hne_ca)).trans hca) ((11 * j) + k) (by omega) (by omega) dX8_load_28 ?_
      refine lv_i2l (v := (cv ((11 * j) + k)).toInt64) hx hb dX8_load_29 rfl ?_
      refine n_last hx hb hw hwL (va_up_eq _ _ _) ((24 * S) + k) (by omega) (by omega) dX8_load_30 (fun H locs hw => ?_)
      rw [va_uu, updB_sL wr (24 * S) (fun k => (cv (11 * j + k)).toInt64) k] at hw
      refine lv_iinc (v := nI (k + 1)) (lv' := [(3, .int (nI (k + 1))), (0, .ref x), (1, .int (nI j)), (2, .int (nI S))]) hx hb dX8_load_31 hl (k := 0) rfl (w_inc _) (by decide) rfl (fun ls hl => ?_)
      refine lv_goto (tgt := 2) hx hb dX8_load_34 (by decide) ?_
      exact ih (k + 1) H locs ls (by omega) (by omega) hw (lv_sub hl [0, 1, 2, 3] rfl)
theorem dgp_congr {r r' : Nat → Int64} : ∀ {n : Nat}, (∀ k, k < n → r k = r' k) → dgp r n = dgp r' n
  | 0, _ => rfl
  | n + 1, h => by
    unfold dgp
    rw [h n (Nat.lt_succ_self n), dgp_congr (fun k hk => h k (Nat.lt_succ_of_lt hk))]
theorem updB_in {α : Type} (r : Nat → α) (b : Nat) (v : Nat → α) {n k : Nat} (h : k < n) : updB r b v n (b + k) = v k := by
  unfold updB; rw [if_pos (by omega), show b + k - b = k by omega]
set_option maxRecDepth 100000 in
set_option maxHeartbeats 4000000 in
theorem c_X8_load (l : Launch) (G : gG) (L : List Nat) (f : Nat → va_E) (sz : Nat) (x ww dd ca S j : Nat) (fs : List Value) (wr : Nat → Int64) (dr cv : Nat → Int32) (hxL : x ∈ L) (hxo : f x = eO 8 fs) (hfs1 : fs[1]? = some (.ref ca)) (hfs7 : fs[7]? = some (.ref ww)) (hfs8 : fs[8]? = some (.ref dd)) (hwL : ww ∈ L) (hww : f ww = eJ G 1440 wr) (hdL : dd ∈ L) (hdd : f dd = eI G 60 dr) (hcL : ca ∈ L) (hca : f ca = eI G 880 cv) (hS : S < 60) (hj : j < 80) :
    Met l yX8_load (uW yX8_load cX8_load 4 none) { frames := 1, cells := 0, slots := 0, locals := 23 } (wIn G [.ref x, .int (nI j), .int (nI S)] L f sz) (va_Qv (fun (g : Nat → va_E) => g = va_up (va_up f ww (eJ G 1440 (updB wr (24 * S) (fun k => (cv (11 * j + k)).toInt64) 11))) dd (eI G 60 (upd dr S (nI (dgp (fun k => (cv (11 * j + k)).toInt64) 11) - nI 1)))) (fun g => wAt G (wA L f sz) L g) (wA L f sz)) 0 0 (wA L f sz) := by
  refine wEnter (by decide) (Nat.le_of_ble_eq_true rfl) ?_
  intro p e s m below meth c ls cx hinit hl hsz hw
  obtain ⟨hx, hb, hr, hml, hown, hts, hlocks⟩ := id cx
  have hown : s.vm.findClass RX8 = some m.cls := hown
  have hl : lv_has ls 4 [(0, .ref x), (1, .int (nI j)), (2, .int (nI S))] := hl
  generalize wA L f sz = A at hw ⊢
  rw [← va_us f ww hww] at hw
  have hne_x : x ≠ ww := ne_E hww hxo (by simp)
  have hne_dd : dd ≠ ww := ne_E hww hdd (by simp)
  refine lv_iconst (v := nI 0) hx hb dX8_load_0 (by decide) ?_
  refine lv_istore_n (lv' := [(3, .int (nI 0)), (0, .ref x), (1, .int (nI j)), (2, .int (nI S))]) hx hb dX8_load_1 rfl hl (by decide) rfl (fun ls hl => ?_)
  refine lp_X8_load (f := f) hx hb hown hts hxL hxo hfs1 hfs7 hfs8 hwL hww hdL hdd hcL hca hS hj (fun H locs ls hw hl => ?_) 12 0 _ _ ls (by omega) (by omega) (by rw [updB_0]; exact hw) hl
  refine lv_aload_n hx hb dX8_load_37 rfl (lv_at hl 0 rfl) ?_
  refine lv_iload_n hx hb dX8_load_38 rfl (lv_at hl 2 rfl) ?_
  refine lv_bipush (v := nI 10) hx hb dX8_load_39 (by decide) ?_
  refine w_callVv (lf := fun g => (L, g)) (As := [.int (nI S), .int (nI 10)]) (rest := []) cx.fix hw (c_X8_trim l G L (va_up f ww (eJ G 1440 (updB wr (24 * S) (fun k => (cv (11 * j + k)).toInt64) 11))) _ x ww dd S 11 fs (updB wr (24 * S) (fun k => (cv (11 * j + k)).toInt64) 11) dr (nI 10) hxL ((va_up_ne _ _ hne_x).trans hxo) hfs7 hfs8 hwL (va_up_eq _ _ _) hdL ((va_up_ne _ _ hne_dd).trans hdd) hS (by decide) (by decide)) hxL ((va_up_ne _ _ hne_x).trans hxo) rfl rfl (w_cV 2 hts u_30 u_31 u_32 u_33 u_34 rfl rfl (by decide) (by decide)) hl.1 rfl (lv_room (Nat.le_of_ble_eq_true rfl)) dX8_load_41 (by decide) (fun u H locs hp hw => ?_)
  have hw : wH G A s.heap s L u H locs := hw
  rw [hp, dgp_congr (r' := fun k => (cv (11 * j + k)).toInt64) (fun k hk => updB_in wr (24 * S) (fun k => (cv (11 * j + k)).toInt64) hk)] at hw
  exact w_vret (lf := fun g => (L, g)) hx hb hr hlocks _ hw (rfl) dX8_load_44
