set_option maxRecDepth 100000 in
set_option maxHeartbeats 4000000 in
theorem c_X8_primitive0 (l : Launch) (G : gG) (L : List Nat) (f : Nat → va_E) (sz : Nat) (x ww dd S : Nat) (fs : List Value) (wr : Nat → Int64) (dr : Nat → Int32) (hxL : x ∈ L) (hxo : f x = eO 8 fs) (hfs7 : fs[7]? = some (.ref ww)) (hfs8 : fs[8]? = some (.ref dd)) (hwL : ww ∈ L) (hww : f ww = eJ G 1440 wr) (hdL : dd ∈ L) (hdd : f dd = eI G 60 dr) (hS : S < 60) (hm1 : dr S = nI 0 - nI 1) :
    Met l yX8_primitive (uW yX8_primitive cX8_primitive 5 (some .long)) { frames := 0, cells := 0, slots := 0, locals := 0 } (wIn G [.ref x, .int (nI S)] L f sz) (va_Ql (fun (r9 : Int64) (g : Nat → va_E) => r9 = 0 ∧ g = f) (fun g => wAt G (wA L f sz) L g) (wA L f sz)) 0 0 (wA L f sz) := by
  refine wEnter (by decide) (Nat.le_of_ble_eq_true rfl) ?_
  intro p e s m below meth c ls cx hinit hl hsz hw
  obtain ⟨hx, hb, hr, hml, hown, hts, hlocks⟩ := id cx
  have hown : s.vm.findClass RX8 = some m.cls := hown
  have hl : lv_has ls 5 [(0, .ref x), (1, .int (nI S))] := hl
  generalize wA L f sz = A at hw ⊢
  refine lv_lconst (v := 0) hx hb dX8_primitive_0 (by decide) ?_
  refine lv_lstore_n (lv' := [(2, .long 0), (0, .ref x), (1, .int (nI S))]) hx hb dX8_primitive_1 rfl hl (by decide) rfl (fun ls hl => ?_)
  refine lv_iconst (v := nI 0) hx hb dX8_primitive_2 (by decide) ?_
  refine lv_istore (lv' := [(4, .int (nI 0)), (2, .long 0), (0, .ref x), (1, .int (nI S))]) hx hb dX8_primitive_3 hl (by decide) rfl (fun ls hl => ?_)
  refine lv_iload hx hb dX8_primitive_5 (lv_at hl 0 rfl) ?_
  refine lv_aload_n hx hb dX8_primitive_7 rfl (lv_at hl 2 rfl) ?_
  refine w_get (C := RX8) (T := TX8) (N := 18) (ci := 8) (ref := "LiftFactorsModel") (v := .ref dd) hx hb hts inX8_u hown hw hxL hxo rfl 8 (by decide) u_28 rfl hfs8 dX8_primitive_8 ?_
  refine lv_iload_n hx hb dX8_primitive_11 rfl (lv_at hl 3 rfl) ?_
  refine n_iald hx hb hw hdL hdd S (by omega) (by omega) dX8_primitive_12 ?_
  refine w_ti hm1 ?_
  refine lv_icmp_gt (tgt := 39) hx hb dX8_primitive_13 (by decide) (fun _ => ?_) (fun h => absurd (by decide) h)
  refine lv_lload_n hx hb dX8_primitive_39 rfl (lv_at hl 1 rfl) ?_
  refine lv_lconst (v := 0) hx hb dX8_primitive_40 (by decide) ?_
  refine n_lcmp_ne (tgt := 47) hx hb dX8_primitive_41 dX8_primitive_42 (by decide) (fun h => ?_) (fun h => ?_)
  · skip
    exact absurd rfl h
  · skip
    refine lv_lconst (v := 0) hx hb dX8_primitive_45 (by decide) ?_
    exact w_lret (lf := fun g => (L, g)) hx hb hr hlocks f hw (⟨rfl, rfl⟩) dX8_primitive_46
set_option maxRecDepth 100000 in
set_option maxHeartbeats 4000000 in
theorem c_X8_great0 (l : Launch) (G : gG) (L : List Nat) (f : Nat → va_E) (sz : Nat) (x ww dd S : Nat) (fs : List Value) (wr : Nat → Int64) (dr : Nat → Int32) (hxL : x ∈ L) (hxo : f x = eO 8 fs) (hfs7 : fs[7]? = some (.ref ww)) (hfs8 : fs[8]? = some (.ref dd)) (hwL : ww ∈ L) (hww : f ww = eJ G 1440 wr) (hdL : dd ∈ L) (hdd : f dd = eI G 60 dr) (hS : S < 60) (hm1 : dr S = nI 0 - nI 1) :
    Met l yX8_great (uW yX8_great cX8_great 3 (some .boolean)) { frames := 0, cells := 0, slots := 0, locals := 0 } (wIn G [.ref x, .int (nI S)] L f sz) (va_Qi (fun (r9 : Int32) (g : Nat → va_E) => r9 = nI 0 ∧ g = f) (fun g => wAt G (wA L f sz) L g) (wA L f sz)) 0 0 (wA L f sz) := by
  refine wEnter (by decide) (Nat.le_of_ble_eq_true rfl) ?_
  intro p e s m below meth c ls cx hinit hl hsz hw
  obtain ⟨hx, hb, hr, hml, hown, hts, hlocks⟩ := id cx
  have hown : s.vm.findClass RX8 = some m.cls := hown
  have hl : lv_has ls 3 [(0, .ref x), (1, .int (nI S))] := hl
  generalize wA L f sz = A at hw ⊢
  refine lv_aload_n hx hb dX8_great_0 rfl (lv_at hl 0 rfl) ?_
  refine w_get (C := RX8) (T := TX8) (N := 18) (ci := 8) (ref := "LiftFactorsModel") (v := .ref dd) hx hb hts inX8_u hown hw hxL hxo rfl 8 (by decide) u_28 rfl hfs8 dX8_great_1 ?_
  refine lv_iload_n hx hb dX8_great_4 rfl (lv_at hl 1 rfl) ?_
  refine n_iald hx hb hw hdL hdd S (by omega) (by omega) dX8_great_5 ?_
  refine w_ti hm1 ?_
  refine lv_bipush (v := nI 11) hx hb dX8_great_6 (by decide) ?_
  refine lv_icmp_lt (tgt := 13) hx hb dX8_great_8 (by decide) (fun _ => ?_) (fun h => absurd (by decide) h)
  refine lv_iconst (v := nI 0) hx hb dX8_great_13 (by decide) ?_
  refine lv_istore_n (lv' := [(2, .int (nI 0)), (0, .ref x), (1, .int (nI S))]) hx hb dX8_great_14 rfl hl (by decide) rfl (fun ls hl => ?_)
  refine lv_iload_n hx hb dX8_great_15 rfl (lv_at hl 0 rfl) ?_
  refine lv_aload_n hx hb dX8_great_16 rfl (lv_at hl 1 rfl) ?_
  refine w_get (C := RX8) (T := TX8) (N := 18) (ci := 8) (ref := "LiftFactorsModel") (v := .ref dd) hx hb hts inX8_u hown hw hxL hxo rfl 8 (by decide) u_28 rfl hfs8 dX8_great_17 ?_
  refine lv_iload_n hx hb dX8_great_20 rfl (lv_at hl 2 rfl) ?_
  refine n_iald hx hb hw hdL hdd S (by omega) (by omega) dX8_great_21 ?_
  refine w_ti hm1 ?_
  refine lv_icmp_gt (tgt := 54) hx hb dX8_great_22 (by decide) (fun _ => ?_) (fun h => absurd (by decide) h)
  refine lv_iconst (v := nI 0) hx hb dX8_great_54 (by decide) ?_
  exact w_zret (lf := fun g => (L, g)) hx hb hr hlocks (by first | rfl | decide) f hw (⟨rfl, rfl⟩) dX8_great_55
set_option maxRecDepth 100000 in
set_option maxHeartbeats 4000000 in
theorem c_X8_copy0 (l : Launch) (G : gG) (L : List Nat) (f : Nat → va_E) (sz : Nat) (x ww dd S T : Nat) (fs : List Value) (wr : Nat → Int64) (dr : Nat → Int32) (hxL : x ∈ L) (hxo : f x = eO 8 fs) (hfs7 : fs[7]? = some (.ref ww)) (hfs8 : fs[8]? = some (.ref dd)) (hwL : ww ∈ L) (hww : f ww = eJ G 1440 wr) (hdL : dd ∈ L) (hdd : f dd = eI G 60 dr) (hS : S < 60) (hm1 : dr S = nI 0 - nI 1) (hT : T < 60) :
    Met l yX8_copy (uW yX8_copy cX8_copy 4 none) { frames := 0, cells := 0, slots := 0, locals := 0 } (wIn G [.ref x, .int (nI S), .int (nI T)] L f sz) (va_Qv (fun (g : Nat → va_E) => g = va_up f dd (eI G 60 (upd dr T (nI 0 - nI 1)))) (fun g => wAt G (wA L f sz) L g) (wA L f sz)) 0 0 (wA L f sz) := by
  refine wEnter (by decide) (Nat.le_of_ble_eq_true rfl) ?_
  intro p e s m below meth c ls cx hinit hl hsz hw
  obtain ⟨hx, hb, hr, hml, hown, hts, hlocks⟩ := id cx
  have hown : s.vm.findClass RX8 = some m.cls := hown
  have hl : lv_has ls 4 [(0, .ref x), (1, .int (nI S)), (2, .int (nI T))] := hl
  generalize wA L f sz = A at hw ⊢
  refine lv_iconst (v := nI 0) hx hb dX8_copy_0 (by decide) ?_
  refine lv_istore_n (lv' := [(3, .int (nI 0)), (0, .ref x), (1, .int (nI S)), (2, .int (nI T))]) hx hb dX8_copy_1 rfl hl (by decide) rfl (fun ls hl => ?_)
  refine lv_iload_n hx hb dX8_copy_2 rfl (lv_at hl 0 rfl) ?_
  refine lv_aload_n hx hb dX8_copy_3 rfl (lv_at hl 1 rfl) ?_
  refine w_get (C := RX8) (T := TX8) (N := 18) (ci := 8) (ref := "LiftFactorsModel") (v := .ref dd) hx hb hts inX8_u hown hw hxL hxo rfl 8 (by decide) u_28 rfl hfs8 dX8_copy_4 ?_
  refine lv_iload_n hx hb dX8_copy_7 rfl (lv_at hl 2 rfl) ?_
  refine n_iald hx hb hw hdL hdd S (by omega) (by omega) dX8_copy_8 ?_
  refine w_ti hm1 ?_
  refine lv_icmp_gt (tgt := 40) hx hb dX8_copy_9 (by decide) (fun _ => ?_) (fun h => absurd (by decide) h)
  refine lv_aload_n hx hb dX8_copy_40 rfl (lv_at hl 1 rfl) ?_
  refine w_get (C := RX8) (T := TX8) (N := 18) (ci := 8) (ref := "LiftFactorsModel") (v := .ref dd) hx hb hts inX8_u hown hw hxL hxo rfl 8 (by decide) u_28 rfl hfs8 dX8_copy_41 ?_
  refine lv_iload_n hx hb dX8_copy_44 rfl (lv_at hl 3 rfl) ?_
  refine lv_aload_n hx hb dX8_copy_45 rfl (lv_at hl 1 rfl) ?_
  refine w_get (C := RX8) (T := TX8) (N := 18) (ci := 8) (ref := "LiftFactorsModel") (v := .ref dd) hx hb hts inX8_u hown hw hxL hxo rfl 8 (by decide) u_28 rfl hfs8 dX8_copy_46 ?_
  refine lv_iload_n hx hb dX8_copy_49 rfl (lv_at hl 2 rfl) ?_
  refine n_iald hx hb hw hdL hdd S (by omega) (by omega) dX8_copy_50 ?_
  refine w_ti hm1 ?_
  refine n_iast hx hb hw hdL hdd T (by omega) (by omega) dX8_copy_51 (fun H locs hw => ?_)
  exact w_vret (lf := fun g => (L, g)) hx hb hr hlocks _ hw (rfl) dX8_copy_52
set_option maxRecDepth 100000 in
set_option maxHeartbeats 4000000 in
theorem c_X8_reduce0 (l : Launch) (G : gG) (L : List Nat) (f : Nat → va_E) (sz : Nat) (x ww dd S : Nat) (fs : List Value) (wr : Nat → Int64) (dr : Nat → Int32) (hxL : x ∈ L) (hxo : f x = eO 8 fs) (hfs7 : fs[7]? = some (.ref ww)) (hfs8 : fs[8]? = some (.ref dd)) (hwL : ww ∈ L) (hww : f ww = eJ G 1440 wr) (hdL : dd ∈ L) (hdd : f dd = eI G 60 dr) (hS : S < 60) (hm1 : dr S = nI 0 - nI 1) :
    Met l yX8_reduce (uW yX8_reduce cX8_reduce 6 none) { frames := 1, cells := 0, slots := 0, locals := 23 } (wIn G [.ref x, .int (nI S)] L f sz) (va_Qv (fun (g : Nat → va_E) => g = va_up f dd (eI G 60 (upd dr S (nI 0 - nI 1)))) (fun g => wAt G (wA L f sz) L g) (wA L f sz)) 0 0 (wA L f sz) := by
  refine wEnter (by decide) (Nat.le_of_ble_eq_true rfl) ?_
  intro p e s m below meth c ls cx hinit hl hsz hw
  obtain ⟨hx, hb, hr, hml, hown, hts, hlocks⟩ := id cx
  have hown : s.vm.findClass RX8 = some m.cls := hown
  have hl : lv_has ls 6 [(0, .ref x), (1, .int (nI S))] := hl
  generalize wA L f sz = A at hw ⊢
  refine lv_aload_n hx hb dX8_reduce_0 rfl (lv_at hl 0 rfl) ?_
  refine w_get (C := RX8) (T := TX8) (N := 18) (ci := 8) (ref := "LiftFactorsModel") (v := .ref dd) hx hb hts inX8_u hown hw hxL hxo rfl 8 (by decide) u_28 rfl hfs8 dX8_reduce_1 ?_
  refine lv_iload_n hx hb dX8_reduce_4 rfl (lv_at hl 1 rfl) ?_
  refine n_iald hx hb hw hdL hdd S (by omega) (by omega) dX8_reduce_5 ?_
  refine w_ti hm1 ?_
  refine lv_istore_n (lv' := [(2, .int (nI 0 - nI 1)), (0, .ref x), (1, .int (nI S))]) hx hb dX8_reduce_6 rfl hl (by decide) rfl (fun ls hl => ?_)
  refine lv_iconst (v := nI 0) hx hb dX8_reduce_7 (by decide) ?_
  refine lv_istore_n (lv' := [(3, .int (nI 0)), (2, .int (nI 0 - nI 1)), (0, .ref x), (1, .int (nI S))]) hx hb dX8_reduce_8 rfl hl (by decide) rfl (fun ls hl => ?_)
  refine lv_iload_n hx hb dX8_reduce_9 rfl (lv_at hl 0 rfl) ?_
  refine lv_iload_n hx hb dX8_reduce_10 rfl (lv_at hl 1 rfl) ?_
  refine lv_icmp_gt (tgt := 68) hx hb dX8_reduce_11 (by decide) (fun _ => ?_) (fun h => absurd (by decide) h)
  refine lv_aload_n hx hb dX8_reduce_68 rfl (lv_at hl 2 rfl) ?_
  refine lv_iload_n hx hb dX8_reduce_69 rfl (lv_at hl 3 rfl) ?_
  refine lv_iload_n hx hb dX8_reduce_70 rfl (lv_at hl 1 rfl) ?_
  refine w_callVv (lf := fun g => (L, g)) (As := [.int (nI S), .int (nI 0 - nI 1)]) (rest := []) cx.fix hw (c_X8_trim l G L f _ x ww dd S 0 fs wr dr (nI 0 - nI 1) hxL hxo hfs7 hfs8 hwL hww hdL hdd hS (by decide) rfl) hxL hxo rfl rfl (w_cV 2 hts u_30 u_31 u_32 u_33 u_34 rfl rfl (by decide) (by decide)) hl.1 rfl (lv_room (Nat.le_of_ble_eq_true rfl)) dX8_reduce_71 (by decide) (fun u H locs hp hw => ?_)
  have hw : wH G A s.heap s L u H locs := hw
  rw [hp] at hw
  exact w_vret (lf := fun g => (L, g)) hx hb hr hlocks _ hw (rfl) dX8_reduce_74
/-- no d from the second number on divides n, as far as d * d ≤ n (k steps) -/
def spL (n : Nat) : Nat → Nat → Bool
  | 0, _ => true
  | k + 1, d => if n < d * d then true else if n % d = 0 then false else spL n k (d + 1)
def spB (v : Int32) : Bool := decide (nI 2 ≤ v) && decide (v ≤ nI 97) && spL v.toNatClampNeg 10 2
set_option maxRecDepth 100000 in
set_option maxHeartbeats 4000000 in
theorem lp_X8_isPrime {p : Program} {l : Launch} {e : Env} {R : Room} {s : State} {m : MethodId} {args : Array Value} {below : List Frame} {meth : Method} {c : Code} {cells slots : Nat} {Q : State → Prop} {G : gG} {A : Nat → Prop} {H0 : Heap} {L : List Nat} (hx : p.tables.exec = Jvm.exec) (hb : c.code = cX8_isPrime) {H : Heap} {locs : List Loc} {n : Nat} (hn : n ≤ 97) (k1 : ∀ ls : Array Slot, spL n 10 2 = true → W p l e R s m args below meth c H locs cells slots Q (F0 m 37 ls [.int (nI 1)])) (k0 : ∀ ls : Array Slot, spL n 10 2 = false → W p l e R s m args below meth c H locs cells slots Q (F0 m 29 ls [.int (nI 0)])) :
    ∀ (k d : Nat) (ls : Array Slot), d + k = 12 → 2 ≤ d → spL n 10 2 = spL n k d → lv_has ls 2 [(1, .int (nI d)), (0, .int (nI n))] → W p l e R s m args below meth c H locs cells slots Q (F0 m 15 ls []) := by
  intro k
  induction k with
  | zero =>
    intro d ls h1 h2 he hl
    have hd : d = 12 := by omega
    subst hd
    refine lv_iload_n hx hb dX8_isPrime_15 rfl (lv_at hl 0 rfl) ?_
    refine lv_iload_n hx hb dX8_isPrime_16 rfl (lv_at hl 0 rfl) ?_
    refine lv_imul hx hb dX8_isPrime_17 ?_
    refine w_ti (y := nI (12 * 12)) (pk_mul _ _) ?_
    refine lv_iload_n hx hb dX8_isPrime_18 rfl (lv_at hl 1 rfl) ?_
    refine n_icmp_gt (tgt := 36) hx hb (by omega) (by omega) dX8_isPrime_19 (by decide) (fun h => ?_) (fun h => ?_)
    · skip
      refine lv_iconst (v := nI 1) hx hb dX8_isPrime_36 (by decide) ?_
      exact k1 ls he
    · skip
      omega
  | succ k ih =>
    intro d ls h1 h2 he hl
    refine lv_iload_n hx hb dX8_isPrime_15 rfl (lv_at hl 0 rfl) ?_
    refine lv_iload_n hx hb dX8_isPrime_16 rfl (lv_at hl 0 rfl) ?_
    refine lv_imul hx hb dX8_isPrime_17 ?_
    refine w_ti (y := nI (d * d)) (pk_mul _ _) ?_
    have hdd : d * d ≤ 144 := Nat.mul_le_mul (show d ≤ 12 by omega) (show d ≤ 12 by omega)
    refine lv_iload_n hx hb dX8_isPrime_18 rfl (lv_at hl 1 rfl) ?_
    refine n_icmp_gt (tgt := 36) hx hb (by omega) (by omega) dX8_isPrime_19 (by decide) (fun h => ?_) (fun h => ?_)
    · skip
      refine lv_iconst (v := nI 1) hx hb dX8_isPrime_36 (by decide) ?_
      exact k1 ls (by rw [he]; unfold spL; rw [if_pos h])
    · skip
      refine lv_iload_n hx hb dX8_isPrime_22 rfl (lv_at hl 1 rfl) ?_
      refine lv_iload_n hx hb dX8_isPrime_23 rfl (lv_at hl 0 rfl) ?_
      refine lv_irem hx hb dX8_isPrime_24 (nI_ne0 (by omega) (by omega)) ?_
      refine w_ti (y := nI (n % d)) (pk_rem (by omega) (by omega) (by omega)) ?_
      refine lv_if_ne (tgt := 30) hx hb dX8_isPrime_25 (by decide) (fun h3 => ?_) (fun h3 => ?_)
      · skip
        refine lv_iinc (v := nI (d + 1)) (lv' := [(1, .int (nI (d + 1))), (0, .int (nI n))]) hx hb dX8_isPrime_30 hl (k := 0) rfl (w_inc _) (by decide) rfl (fun ls hl => ?_)
        refine lv_goto (tgt := 15) hx hb dX8_isPrime_33 (by decide) ?_
        refine ih (d + 1) ls (by omega) (by omega) (he.trans ?_) (lv_sub hl [0, 1] rfl)
        rw [spL, if_neg (by omega), if_neg (fun q => h3 (by rw [q]; rfl))]
      · skip
        refine lv_iconst (v := nI 0) hx hb dX8_isPrime_28 (by decide) ?_
        refine k0 ls (he.trans ?_)
        have hm : n % d = 0 := by
          rcases Nat.eq_zero_or_pos (n % d) with q | q
          · exact q
          · exact absurd h3 (nI_ne0 q (by have := Nat.mod_lt n (show d > 0 by omega); omega))
        rw [spL, if_neg (by omega), if_pos hm]
set_option maxRecDepth 100000 in
set_option maxHeartbeats 4000000 in
theorem c_X8_isPrime (l : Launch) (G : gG) (L : List Nat) (f : Nat → va_E) (sz : Nat) (v : Int32) :
    Met l yX8_isPrime (uW yX8_isPrime cX8_isPrime 2 (some .boolean)) { frames := 0, cells := 0, slots := 0, locals := 0 } (wIn G [.int v] L f sz) (va_Qi (fun (r9 : Int32) (g : Nat → va_E) => r9 = (if spB v then nI 1 else nI 0) ∧ g = f) (fun g => wAt G (wA L f sz) L g) (wA L f sz)) 0 0 (wA L f sz) := by
  refine wEnter (by decide) (Nat.le_of_ble_eq_true rfl) ?_
  intro p e s m below meth c ls cx hinit hl hsz hw
  obtain ⟨hx, hb, hr, hml, hown, hts, hlocks⟩ := id cx
  have hown : s.vm.findClass RX8 = some m.cls := hown
  have hl : lv_has ls 2 [(0, .int v)] := hl
  generalize wA L f sz = A at hw ⊢
  refine lv_iload_n hx hb dX8_isPrime_0 rfl (lv_at hl 0 rfl) ?_
  refine lv_iconst (v := nI 2) hx hb dX8_isPrime_1 (by decide) ?_
  refine lv_icmp_lt (tgt := 11) hx hb dX8_isPrime_2 (by decide) (fun h => ?_) (fun h => ?_)
  · skip
    refine lv_iconst (v := nI 0) hx hb dX8_isPrime_11 (by decide) ?_
    exact w_zret (lf := fun g => (L, g)) hx hb hr hlocks (by first | rfl | decide) f hw (⟨by rw [show spB v = false from by unfold spB; rw [decide_eq_false (i32_nle.mpr h)]; rfl]; rfl, rfl⟩) dX8_isPrime_12
  · skip
    refine lv_iload_n hx hb dX8_isPrime_5 rfl (lv_at hl 0 rfl) ?_
    refine lv_bipush (v := nI 97) hx hb dX8_isPrime_6 (by decide) ?_
    refine lv_icmp_le (tgt := 13) hx hb dX8_isPrime_8 (by decide) (fun h2 => ?_) (fun h2 => ?_)
    · skip
      obtain ⟨n, hn, en⟩ := nI_of2 (M := nI 97) (n := 97) (by decide) (fun q => h (by rw [Int32.lt_iff_toInt_lt] at q ⊢; have e0 : (0 : Int32).toInt = 0 := rfl; have e2 : (nI 2).toInt = 2 := rfl; omega)) h2
      subst en
      have hsp : spB (nI n) = spL n 10 2 := by
        unfold spB
        rw [decide_eq_true (i32_nlt.mp h), decide_eq_true h2, nI_clamp (by omega)]; rfl
      refine lv_iconst (v := nI 2) hx hb dX8_isPrime_13 (by decide) ?_
      refine lv_istore_n (lv' := [(1, .int (nI 2)), (0, .int (nI n))]) hx hb dX8_isPrime_14 rfl hl (by decide) rfl (fun ls hl => ?_)
      refine lp_X8_isPrime (G := G) (A := A) (H0 := s.heap) (L := L) hx hb hn (fun ls hs => ?_) (fun ls hs => ?_) 10 2 ls (by decide) (by decide) rfl hl
      · skip
        exact w_zret (lf := fun g => (L, g)) hx hb hr hlocks (by first | rfl | decide) f hw (⟨by rw [hsp, hs]; rfl, rfl⟩) dX8_isPrime_37
      · skip
        exact w_zret (lf := fun g => (L, g)) hx hb hr hlocks (by first | rfl | decide) f hw (⟨by rw [hsp, hs]; rfl, rfl⟩) dX8_isPrime_29
    · skip
      refine lv_iconst (v := nI 0) hx hb dX8_isPrime_11 (by decide) ?_
      exact w_zret (lf := fun g => (L, g)) hx hb hr hlocks (by first | rfl | decide) f hw (⟨by rw [show spB v = false from by unfold spB; rw [decide_eq_false h2]; simp]; rfl, rfl⟩) dX8_isPrime_12
set_option maxRecDepth 100000 in
set_option maxHeartbeats 4000000 in
theorem lp_X7_isSmallPrime {p : Program} {l : Launch} {e : Env} {R : Room} {s : State} {m : MethodId} {args : Array Value} {below : List Frame} {meth : Method} {c : Code} {cells slots : Nat} {Q : State → Prop} {G : gG} {A : Nat → Prop} {H0 : Heap} {L : List Nat} (hx : p.tables.exec = Jvm.exec) (hb : c.code = cX7_isSmallPrime) {H : Heap} {locs : List Loc} {n : Nat} (hn : n ≤ 97) (k1 : ∀ ls : Array Slot, spL n 10 2 = true → W p l e R s m args below meth c H locs cells slots Q (F0 m 37 ls [.int (nI 1)])) (k0 : ∀ ls : Array Slot, spL n 10 2 = false → W p l e R s m args below meth c H locs cells slots Q (F0 m 29 ls [.int (nI 0)])) :
    ∀ (k d : Nat) (ls : Array Slot), d + k = 12 → 2 ≤ d → spL n 10 2 = spL n k d → lv_has ls 2 [(1, .int (nI d)), (0, .int (nI n))] → W p l e R s m args below meth c H locs cells slots Q (F0 m 15 ls []) := by
  intro k
  induction k with
  | zero =>
    intro d ls h1 h2 he hl
    have hd : d = 12 := by omega
    subst hd
    refine lv_iload_n hx hb dX7_isSmallPrime_15 rfl (lv_at hl 0 rfl) ?_
    refine lv_iload_n hx hb dX7_isSmallPrime_16 rfl (lv_at hl 0 rfl) ?_
    refine lv_imul hx hb dX7_isSmallPrime_17 ?_
    refine w_ti (y := nI (12 * 12)) (pk_mul _ _) ?_
    refine lv_iload_n hx hb dX7_isSmallPrime_18 rfl (lv_at hl 1 rfl) ?_
    refine n_icmp_gt (tgt := 36) hx hb (by omega) (by omega) dX7_isSmallPrime_19 (by decide) (fun h => ?_) (fun h => ?_)
    · skip
      refine lv_iconst (v := nI 1) hx hb dX7_isSmallPrime_36 (by decide) ?_
      exact k1 ls he
    · skip
      omega
  | succ k ih =>
    intro d ls h1 h2 he hl
    refine lv_iload_n hx hb dX7_isSmallPrime_15 rfl (lv_at hl 0 rfl) ?_
    refine lv_iload_n hx hb dX7_isSmallPrime_16 rfl (lv_at hl 0 rfl) ?_
    refine lv_imul hx hb dX7_isSmallPrime_17 ?_
    refine w_ti (y := nI (d * d)) (pk_mul _ _) ?_
    have hdd : d * d ≤ 144 := Nat.mul_le_mul (show d ≤ 12 by omega) (show d ≤ 12 by omega)
    refine lv_iload_n hx hb dX7_isSmallPrime_18 rfl (lv_at hl 1 rfl) ?_
    refine n_icmp_gt (tgt := 36) hx hb (by omega) (by omega) dX7_isSmallPrime_19 (by decide) (fun h => ?_) (fun h => ?_)
    · skip
      refine lv_iconst (v := nI 1) hx hb dX7_isSmallPrime_36 (by decide) ?_
      exact k1 ls (by rw [he]; unfold spL; rw [if_pos h])
    · skip
      refine lv_iload_n hx hb dX7_isSmallPrime_22 rfl (lv_at hl 1 rfl) ?_
      refine lv_iload_n hx hb dX7_isSmallPrime_23 rfl (lv_at hl 0 rfl) ?_
      refine lv_irem hx hb dX7_isSmallPrime_24 (nI_ne0 (by omega) (by omega)) ?_
      refine w_ti (y := nI (n % d)) (pk_rem (by omega) (by omega) (by omega)) ?_
      refine lv_if_ne (tgt := 30) hx hb dX7_isSmallPrime_25 (by decide) (fun h3 => ?_) (fun h3 => ?_)
      · skip
        refine lv_iinc (v := nI (d + 1)) (lv' := [(1, .int (nI (d + 1))), (0, .int (nI n))]) hx hb dX7_isSmallPrime_30 hl (k := 0) rfl (w_inc _) (by decide) rfl (fun ls hl => ?_)
        refine lv_goto (tgt := 15) hx hb dX7_isSmallPrime_33 (by decide) ?_
        refine ih (d + 1) ls (by omega) (by omega) (he.trans ?_) (lv_sub hl [0, 1] rfl)
        rw [spL, if_neg (by omega), if_neg (fun q => h3 (by rw [q]; rfl))]
      · skip
        refine lv_iconst (v := nI 0) hx hb dX7_isSmallPrime_28 (by decide) ?_
        refine k0 ls (he.trans ?_)
        have hm : n % d = 0 := by
          rcases Nat.eq_zero_or_pos (n % d) with q | q
          · exact q
          · exact absurd h3 (nI_ne0 q (by have := Nat.mod_lt n (show d > 0 by omega); omega))
        rw [spL, if_neg (by omega), if_pos hm]
set_option maxRecDepth 100000 in
set_option maxHeartbeats 4000000 in
theorem c_X7_isSmallPrime (l : Launch) (G : gG) (L : List Nat) (f : Nat → va_E) (sz : Nat) (v : Int32) :
    Met l yX7_isSmallPrime (uW yX7_isSmallPrime cX7_isSmallPrime 2 (some .boolean)) { frames := 0, cells := 0, slots := 0, locals := 0 } (wIn G [.int v] L f sz) (va_Qi (fun (r9 : Int32) (g : Nat → va_E) => r9 = (if spB v then nI 1 else nI 0) ∧ g = f) (fun g => wAt G (wA L f sz) L g) (wA L f sz)) 0 0 (wA L f sz) := by
  refine wEnter (by decide) (Nat.le_of_ble_eq_true rfl) ?_
  intro p e s m below meth c ls cx hinit hl hsz hw
  obtain ⟨hx, hb, hr, hml, hown, hts, hlocks⟩ := id cx
  have hown : s.vm.findClass RX7 = some m.cls := hown
  have hl : lv_has ls 2 [(0, .int v)] := hl
  generalize wA L f sz = A at hw ⊢
  refine lv_iload_n hx hb dX7_isSmallPrime_0 rfl (lv_at hl 0 rfl) ?_
  refine lv_iconst (v := nI 2) hx hb dX7_isSmallPrime_1 (by decide) ?_
  refine lv_icmp_lt (tgt := 11) hx hb dX7_isSmallPrime_2 (by decide) (fun h => ?_) (fun h => ?_)
  · skip
    refine lv_iconst (v := nI 0) hx hb dX7_isSmallPrime_11 (by decide) ?_
    exact w_zret (lf := fun g => (L, g)) hx hb hr hlocks (by first | rfl | decide) f hw (⟨by rw [show spB v = false from by unfold spB; rw [decide_eq_false (i32_nle.mpr h)]; rfl]; rfl, rfl⟩) dX7_isSmallPrime_12
  · skip
    refine lv_iload_n hx hb dX7_isSmallPrime_5 rfl (lv_at hl 0 rfl) ?_
    refine lv_bipush (v := nI 97) hx hb dX7_isSmallPrime_6 (by decide) ?_
    refine lv_icmp_le (tgt := 13) hx hb dX7_isSmallPrime_8 (by decide) (fun h2 => ?_) (fun h2 => ?_)
    · skip
      obtain ⟨n, hn, en⟩ := nI_of2 (M := nI 97) (n := 97) (by decide) (fun q => h (by rw [Int32.lt_iff_toInt_lt] at q ⊢; have e0 : (0 : Int32).toInt = 0 := rfl; have e2 : (nI 2).toInt = 2 := rfl; omega)) h2
      subst en
      have hsp : spB (nI n) = spL n 10 2 := by
        unfold spB
        rw [decide_eq_true (i32_nlt.mp h), decide_eq_true h2, nI_clamp (by omega)]; rfl
      refine lv_iconst (v := nI 2) hx hb dX7_isSmallPrime_13 (by decide) ?_
      refine lv_istore_n (lv' := [(1, .int (nI 2)), (0, .int (nI n))]) hx hb dX7_isSmallPrime_14 rfl hl (by decide) rfl (fun ls hl => ?_)
      refine lp_X7_isSmallPrime (G := G) (A := A) (H0 := s.heap) (L := L) hx hb hn (fun ls hs => ?_) (fun ls hs => ?_) 10 2 ls (by decide) (by decide) rfl hl
      · skip
        exact w_zret (lf := fun g => (L, g)) hx hb hr hlocks (by first | rfl | decide) f hw (⟨by rw [hsp, hs]; rfl, rfl⟩) dX7_isSmallPrime_37
      · skip
        exact w_zret (lf := fun g => (L, g)) hx hb hr hlocks (by first | rfl | decide) f hw (⟨by rw [hsp, hs]; rfl, rfl⟩) dX7_isSmallPrime_29
    · skip
      refine lv_iconst (v := nI 0) hx hb dX7_isSmallPrime_11 (by decide) ?_
      exact w_zret (lf := fun g => (L, g)) hx hb hr hlocks (by first | rfl | decide) f hw (⟨by rw [show spB v = false from by unfold spB; rw [decide_eq_false h2]; simp]; rfl, rfl⟩) dX7_isSmallPrime_12
