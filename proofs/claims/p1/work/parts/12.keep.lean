theorem u_1 : Cond.fieldLink RX7 14 "LiftFactors" "given" "I" ∈ uU := uU_in (by decide +kernel) (by decide +kernel)
theorem u_2 : Cond.constantLong RX7 241 (9999) ∈ uU := uU_in (by decide +kernel) (by decide +kernel)
section WLong
variable {p : Program} {l : Launch} {e : Env} {R : Room} {s : State} {m : MethodId} {args : Array Value} {below : List Frame} {meth : Method} {c : Code} {H : Heap} {locs : List Loc} {cells slots : Nat} {Q : State → Prop}
variable {cc : ByteArray} {pc : Nat} {ls : Array Slot} {rest : List Value}
theorem lgc_lt (x y : Int64) : lg_cmp x y < 0 ↔ x < y := by
  unfold lg_cmp
  by_cases h1 : y < x
  · rw [if_pos h1]
    constructor
    · intro h; exact absurd h (by decide)
    · intro h; rw [Int64.lt_iff_toInt_lt] at h h1; omega
  · rw [if_neg h1]
    by_cases h2 : x = y
    · subst h2; rw [if_pos rfl]
      constructor
      · intro h; exact absurd h (by decide)
      · intro h; exact absurd h h1
    · rw [if_neg h2]
      constructor
      · intro _
        rw [Int64.lt_iff_toInt_lt] at h1 ⊢
        have : x.toInt ≠ y.toInt := fun q => h2 (Int64.toInt_inj.mp q)
        omega
      · intro _; decide
theorem lgc_gt (x y : Int64) : 0 < lg_cmp x y ↔ y < x := by
  unfold lg_cmp
  by_cases h1 : y < x
  · rw [if_pos h1]; exact ⟨fun _ => h1, fun _ => by decide⟩
  · rw [if_neg h1]
    by_cases h2 : x = y
    · rw [if_pos h2]; exact ⟨fun h => absurd h (by decide), fun h => absurd h h1⟩
    · rw [if_neg h2]; exact ⟨fun h => absurd h (by decide), fun h => absurd h h1⟩
theorem i32_nle {a b : Int32} : ¬ a ≤ b ↔ b < a := by rw [Int32.le_iff_toInt_le, Int32.lt_iff_toInt_lt]; omega
theorem i32_nlt {a b : Int32} : ¬ a < b ↔ b ≤ a := by rw [Int32.le_iff_toInt_le, Int32.lt_iff_toInt_lt]; omega
theorem n_lcmp_lt (hx : p.tables.exec = Jvm.exec) (hb : c.code = cc) {x y : Int64} {off : Int} {tgt : Nat} (hd0 : decode cc pc = .ok (.lcmp, 1)) (hdg : decode cc (pc + 1) = .ok (.ifCond .lt off, 3)) (ht : ((pc + 1 : Nat) : Int) + off = (tgt : Int))
    (kt : x < y → W p l e R s m args below meth c H locs cells slots Q (F0 m tgt ls rest)) (kf : ¬ x < y → W p l e R s m args below meth c H locs cells slots Q (F0 m (pc + 4) ls rest)) : W p l e R s m args below meth c H locs cells slots Q (F0 m pc ls (.long y :: .long x :: rest)) := by
  refine W.lcmp hx hb hd0 ?_
  exact lv_if_lt hx hb hdg ht (fun h => kt ((lgc_lt x y).mp h)) (fun h => kf (fun q => h ((lgc_lt x y).mpr q)))
theorem n_lcmp_gt (hx : p.tables.exec = Jvm.exec) (hb : c.code = cc) {x y : Int64} {off : Int} {tgt : Nat} (hd0 : decode cc pc = .ok (.lcmp, 1)) (hdg : decode cc (pc + 1) = .ok (.ifCond .gt off, 3)) (ht : ((pc + 1 : Nat) : Int) + off = (tgt : Int))
    (kt : y < x → W p l e R s m args below meth c H locs cells slots Q (F0 m tgt ls rest)) (kf : ¬ y < x → W p l e R s m args below meth c H locs cells slots Q (F0 m (pc + 4) ls rest)) : W p l e R s m args below meth c H locs cells slots Q (F0 m pc ls (.long y :: .long x :: rest)) := by
  refine W.lcmp hx hb hd0 ?_
  exact lv_if_gt hx hb hdg ht (fun h => kt ((lgc_gt x y).mp h)) (fun h => kf (fun q => h ((lgc_gt x y).mpr q)))
theorem n_lcmp_ge (hx : p.tables.exec = Jvm.exec) (hb : c.code = cc) {x y : Int64} {off : Int} {tgt : Nat} (hd0 : decode cc pc = .ok (.lcmp, 1)) (hdg : decode cc (pc + 1) = .ok (.ifCond .ge off, 3)) (ht : ((pc + 1 : Nat) : Int) + off = (tgt : Int))
    (kt : ¬ x < y → W p l e R s m args below meth c H locs cells slots Q (F0 m tgt ls rest)) (kf : x < y → W p l e R s m args below meth c H locs cells slots Q (F0 m (pc + 4) ls rest)) : W p l e R s m args below meth c H locs cells slots Q (F0 m pc ls (.long y :: .long x :: rest)) := by
  refine W.lcmp hx hb hd0 ?_
  exact lv_if_ge hx hb hdg ht (fun h => kt (fun q => absurd ((lgc_lt x y).mpr q) (i32_nlt.mpr h))) (fun h => kf ((lgc_lt x y).mp (i32_nle.mp h)))
theorem n_lcmp_le (hx : p.tables.exec = Jvm.exec) (hb : c.code = cc) {x y : Int64} {off : Int} {tgt : Nat} (hd0 : decode cc pc = .ok (.lcmp, 1)) (hdg : decode cc (pc + 1) = .ok (.ifCond .le off, 3)) (ht : ((pc + 1 : Nat) : Int) + off = (tgt : Int))
    (kt : ¬ y < x → W p l e R s m args below meth c H locs cells slots Q (F0 m tgt ls rest)) (kf : y < x → W p l e R s m args below meth c H locs cells slots Q (F0 m (pc + 4) ls rest)) : W p l e R s m args below meth c H locs cells slots Q (F0 m pc ls (.long y :: .long x :: rest)) := by
  refine W.lcmp hx hb hd0 ?_
  exact lv_if_le hx hb hdg ht (fun h => kt (fun q => absurd ((lgc_gt x y).mpr q) (i32_nlt.mpr h))) (fun h => kf ((lgc_gt x y).mp (i32_nle.mp h)))
end WLong
set_option maxRecDepth 100000 in
set_option maxHeartbeats 4000000 in
theorem lp_X7_keep {p : Program} {l : Launch} {e : Env} {R : Room} {s : State} {m : MethodId} {args : Array Value} {below : List Frame} {meth : Method} {c : Code} {cells slots : Nat} {Q : State → Prop} {G : gG} {A : Nat → Prop} {H0 : Heap} {L : List Nat} (hx : p.tables.exec = Jvm.exec) (hb : c.code = cX7_keep) (hown : s.vm.findClass RX7 = some m.cls) (hts : ∀ w ∈ uU, w.before args s = true) {f : Nat → va_E} {x b co i nb : Nat} {fs : List Value} {cr0 : Nat → Option Nat} {cr : Nat → Nat} {cv : Nat → Nat → Int32} {r : Nat → Int64} (hxL : x ∈ L) (hxo : f x = eO 7 fs) (hfl : fs.length = 15) (hfs0 : fs[0]? = some (.ref co)) (hfs1 : fs[1]? = some (.int (nI i))) (hco : f co = eII G 80 cr0) (hcoL : co ∈ L) (hcr : ∀ j, j < 80 → cr0 j = some (cr j)) (hcrL : ∀ j, j < 80 → cr j ∈ L) (hcv : ∀ j, j < 80 → f (cr j) = eI G 11 (cv j)) (hbL : b ∈ L) (hbb : f b = eJ G nb r) (hnb : 11 ≤ nb) (hnb2 : nb < 2 ^ 31) (hi : i < 80) (kk : ∀ H locs ls, wH G A H0 s L (va_up f (cr i) (eI G 11 (prL (fun k => (r k).toInt32) (cv i) 11))) H locs → lv_has ls 4 [(2, .int (nI i)), (0, .ref x)] → W p l e R s m args below meth c H locs cells slots Q (F0 m 31 ls [])) :
    ∀ (d k : Nat) (H : Heap) (locs : List Loc) (ls : Array Slot), k ≤ 11 → 11 + 1 ≤ k + d → wH G A H0 s L (va_up f (cr i) (eI G 11 (prL (fun k => (r k).toInt32) (cv i) k))) H locs → lv_has ls 4 [(3, .int (nI k)), (2, .int (nI i)), (0, .ref x), (1, .ref b)] → W p l e R s m args below meth c H locs cells slots Q (F0 m 7 ls []) := by
  have hne_x : x ≠ cr i := ne_E (hcv i hi) hxo (by simp)
  have hne_co : co ≠ cr i := ne_E (hcv i hi) hco (by simp)
  have hne_b : b ≠ cr i := ne_E (hcv i hi) hbb (by simp)
  intro d
  induction d with
  | zero => intro k H locs ls h1 h2; exact absurd h2 (by omega)
  | succ d ih =>
    intro k H locs ls hk hd hw hl
    refine lv_iload_n hx hb dX7_keep_7 rfl (lv_at hl 0 rfl) ?_
    refine lv_bipush (v := nI 11) hx hb dX7_keep_8 (by decide) ?_
    refine n_icmp_ge (tgt := 31) hx hb (by omega) (by omega) dX7_keep_10 (by decide) (fun h => ?_) (fun h => ?_)
    · skip
      rw [show k = 11 by omega] at hw
      exact kk H locs ls hw (lv_sub hl [1, 2] rfl)
    · skip
      refine lv_aload_n hx hb dX7_keep_13 rfl (lv_at hl 2 rfl) ?_
      refine w_get (C := RX7) (T := TX7) (N := 15) (ci := 7) (ref := "LiftFactors") (v := .ref co) hx hb hts inX7_u hown hw hxL ((va_up_ne _ _ (hne_x)).trans hxo) rfl 0 (by decide) u_0 rfl hfs0 dX7_keep_14 ?_
      refine lv_iload_n hx hb dX7_keep_17 rfl (lv_at hl 1 rfl) ?_
      refine n_aald hx hb hw hcoL (Or.inl ((va_up_ne _ _ (hne_co)).trans hco)) i (by omega) (by omega) (hcr _ hi) dX7_keep_18 ?_
      refine lv_iload_n hx hb dX7_keep_19 rfl (lv_at hl 0 rfl) ?_
      refine lv_aload_n hx hb dX7_keep_20 rfl (lv_at hl 3 rfl) ?_
      refine lv_iload_n hx hb dX7_keep_21 rfl (lv_at hl 0 rfl) ?_
      refine n_lald hx hb hw hbL ((va_up_ne _ _ (hne_b)).trans hbb) k (by omega) (by omega) dX7_keep_22 ?_
      refine lv_l2i (v := (r k).toInt32) hx hb dX7_keep_23 rfl ?_
      refine n_iast hx hb hw (hcrL _ hi) (va_up_eq _ _ _) k (by omega) (by omega) dX7_keep_24 (fun H locs hw => ?_)
      rw [va_uu, prI_s (fun k => (r k).toInt32) (cv i) k] at hw
      refine lv_iinc (v := nI (k + 1)) (lv' := [(3, .int (nI (k + 1))), (2, .int (nI i)), (0, .ref x), (1, .ref b)]) hx hb dX7_keep_25 hl (k := 0) rfl (w_inc _) (by decide) rfl (fun ls hl => ?_)
      refine lv_goto (tgt := 7) hx hb dX7_keep_28 (by decide) ?_
      exact ih (k + 1) H locs ls (by omega) (by omega) hw (lv_sub hl [0, 1, 2, 3] rfl)
set_option maxRecDepth 100000 in
set_option maxHeartbeats 4000000 in
theorem c_X7_keep (l : Launch) (G : gG) (L : List Nat) (f : Nat → va_E) (sz : Nat) (x b co i nb : Nat) (fs : List Value) (cr0 : Nat → Option Nat) (cr : Nat → Nat) (cv : Nat → Nat → Int32) (r : Nat → Int64) (hxL : x ∈ L) (hxo : f x = eO 7 fs) (hfl : fs.length = 15) (hfs0 : fs[0]? = some (.ref co)) (hfs1 : fs[1]? = some (.int (nI i))) (hco : f co = eII G 80 cr0) (hcoL : co ∈ L) (hcr : ∀ j, j < 80 → cr0 j = some (cr j)) (hcrL : ∀ j, j < 80 → cr j ∈ L) (hcv : ∀ j, j < 80 → f (cr j) = eI G 11 (cv j)) (hbL : b ∈ L) (hbb : f b = eJ G nb r) (hnb : 11 ≤ nb) (hnb2 : nb < 2 ^ 31) (hi : i < 80) :
    Met l yX7_keep (uW yX7_keep cX7_keep 4 (some .int)) { frames := 0, cells := 0, slots := 0, locals := 0 } (wIn G [.ref x, .ref b] L f sz) (va_Qi (fun (r9 : Int32) (g : Nat → va_E) => r9 = nI i ∧ g = va_up (va_up f (cr i) (eI G 11 (prL (fun k => (r k).toInt32) (cv i) 11))) x (eO 7 (fs.set 1 (.int (nI (i + 1)))))) (fun g => wAt G (wA L f sz) L g) (wA L f sz)) 0 0 (wA L f sz) := by
  refine wEnter (by decide) (Nat.le_of_ble_eq_true rfl) ?_
  intro p e s m below meth c ls cx hinit hl hsz hw
  obtain ⟨hx, hb, hr, hml, hown, hts, hlocks⟩ := id cx
  have hown : s.vm.findClass RX7 = some m.cls := hown
  have hl : lv_has ls 4 [(0, .ref x), (1, .ref b)] := hl
  generalize wA L f sz = A at hw ⊢
  rw [← va_us f (cr i) (hcv i hi)] at hw
  have hne_x : x ≠ cr i := ne_E (hcv i hi) hxo (by simp)
  refine lv_aload_n hx hb dX7_keep_0 rfl (lv_at hl 0 rfl) ?_
  refine w_get (C := RX7) (T := TX7) (N := 15) (ci := 7) (ref := "LiftFactors") (v := .int (nI i)) hx hb hts inX7_u hown hw hxL ((va_up_ne _ _ hne_x).trans hxo) rfl 1 (by decide) u_1 rfl hfs1 dX7_keep_1 ?_
  refine lv_istore_n (lv' := [(2, .int (nI i)), (0, .ref x), (1, .ref b)]) hx hb dX7_keep_4 rfl hl (by decide) rfl (fun ls hl => ?_)
  refine lv_iconst (v := nI 0) hx hb dX7_keep_5 (by decide) ?_
  refine lv_istore_n (lv' := [(3, .int (nI 0)), (2, .int (nI i)), (0, .ref x), (1, .ref b)]) hx hb dX7_keep_6 rfl hl (by decide) rfl (fun ls hl => ?_)
  refine lp_X7_keep (f := f) (r := r) hx hb hown hts hxL hxo hfl hfs0 hfs1 hco hcoL hcr hcrL hcv hbL hbb hnb hnb2 hi (fun H locs ls hw hl => ?_) 12 0 _ _ ls (by omega) (by omega) (by rw [prL_0]; exact hw) (lv_sub hl [0, 1, 2, 3] rfl)
  refine lv_aload_n hx hb dX7_keep_31 rfl (lv_at hl 1 rfl) ?_
  refine lv_dup hx hb dX7_keep_32 rfl ?_
  refine w_get (C := RX7) (T := TX7) (N := 15) (ci := 7) (ref := "LiftFactors") (v := .int (nI i)) hx hb hts inX7_u hown hw hxL ((va_up_ne _ _ hne_x).trans hxo) rfl 1 (by decide) u_1 rfl hfs1 dX7_keep_33 ?_
  refine lv_iconst (v := nI 1) hx hb dX7_keep_36 (by decide) ?_
  refine lv_iadd hx hb dX7_keep_37 ?_
  refine w_ti (y := nI (i + 1)) (nI_add _ _) ?_
  refine w_put (C := RX7) (T := TX7) (N := 15) (ci := 7) (ref := "LiftFactors") (ty := .int) (v := .int (nI (i + 1))) hx hb hts inX7_u tyX7 tyX7_ok nmX7 hown hw hxL ((va_up_ne _ _ hne_x).trans hxo) rfl 1 (by decide) u_1 rfl rfl (by decide +kernel) rfl rfl (by first | omega | decide) dX7_keep_38 (fun H locs hw => ?_)
  refine lv_iload_n hx hb dX7_keep_41 rfl (lv_at hl 0 rfl) ?_
  exact w_iret (lf := fun g => (L, g)) hx hb hr hlocks _ hw (⟨rfl, rfl⟩) dX7_keep_42
def bndC (k : Nat) : Int64 := if k ≤ 10 then 9999 else 0
/-- a coefficient that is not too great -/
def okC (k : Nat) (v : Int64) : Prop := ¬ v < -(bndC k) ∧ ¬ bndC k < v
set_option maxRecDepth 100000 in
set_option maxHeartbeats 4000000 in
theorem lp_X7_isTooGreat {p : Program} {l : Launch} {e : Env} {R : Room} {s : State} {m : MethodId} {args : Array Value} {below : List Frame} {meth : Method} {c : Code} {cells slots : Nat} {Q : State → Prop} {G : gG} {A : Nat → Prop} {H0 : Heap} {L : List Nat} (hx : p.tables.exec = Jvm.exec) (hb : c.code = cX7_isTooGreat) (hown : s.vm.findClass RX7 = some m.cls) (hts : ∀ w ∈ uU, w.before args s = true) {f : Nat → va_E} {H : Heap} {locs : List Loc} (hw : wH G A H0 s L f H locs) {b n : Nat} {r : Nat → Int64} (hbL : b ∈ L) (hbb : f b = eJ G n r) (hn : n < 2 ^ 31) (k1 : ∀ ls, (∃ k, k < n ∧ ¬ okC k (r k)) → W p l e R s m args below meth c H locs cells slots Q (F0 m 40 ls [.int (nI 1)])) (k0 : ∀ ls, (∀ k, k < n → okC k (r k)) → W p l e R s m args below meth c H locs cells slots Q (F0 m 48 ls [.int (nI 0)])) :
    ∀ (d k : Nat) (ls : Array Slot), k ≤ n → n + 1 ≤ k + d → (∀ j, j < k → okC j (r j)) → lv_has ls 4 [(1, .int (nI k)), (0, .ref b)] → W p l e R s m args below meth c H locs cells slots Q (F0 m 2 ls []) := by
  intro d
  induction d with
  | zero => intro k ls h1 h2; exact absurd h2 (by omega)
  | succ d ih =>
    intro k ls hk hd hok hl
    refine lv_iload_n hx hb dX7_isTooGreat_2 rfl (lv_at hl 0 rfl) ?_
    refine lv_aload_n hx hb dX7_isTooGreat_3 rfl (lv_at hl 1 rfl) ?_
    refine w_lenJ hx hb hw hbL hbb dX7_isTooGreat_4 ?_
    refine n_icmp_ge (tgt := 47) hx hb (by omega) (by omega) dX7_isTooGreat_5 (by decide) (fun h => ?_) (fun h => ?_)
    · skip
      refine lv_iconst (v := nI 0) hx hb dX7_isTooGreat_47 (by decide) ?_
      exact k0 ls (fun j hj => hok j (by omega))
    · skip
      have join : ∀ ls : Array Slot, lv_has ls 4 [(1, .int (nI k)), (0, .ref b)] → W p l e R s m args below meth c H locs cells slots Q (F0 m 21 ls [.long (bndC k)]) := by
        intro ls hl
        refine lv_lstore_n (lv' := [(2, .long (bndC k)), (1, .int (nI k)), (0, .ref b)]) hx hb dX7_isTooGreat_21 rfl hl (by decide) rfl (fun ls hl => ?_)
        refine lv_aload_n hx hb dX7_isTooGreat_22 rfl (lv_at hl 2 rfl) ?_
        refine lv_iload_n hx hb dX7_isTooGreat_23 rfl (lv_at hl 1 rfl) ?_
        refine n_lald hx hb hw hbL hbb k (by omega) (by omega) dX7_isTooGreat_24 ?_
        refine lv_lload_n hx hb dX7_isTooGreat_25 rfl (lv_at hl 0 rfl) ?_
        refine lv_lneg hx hb dX7_isTooGreat_26 ?_
        refine n_lcmp_lt (tgt := 39) hx hb dX7_isTooGreat_27 dX7_isTooGreat_28 (by decide) (fun hc => ?_) (fun hc => ?_)
        · skip
          refine lv_iconst (v := nI 1) hx hb dX7_isTooGreat_39 (by decide) ?_
          exact k1 ls ⟨k, h, fun q => q.1 hc⟩
        · skip
          refine lv_aload_n hx hb dX7_isTooGreat_31 rfl (lv_at hl 2 rfl) ?_
          refine lv_iload_n hx hb dX7_isTooGreat_32 rfl (lv_at hl 1 rfl) ?_
          refine n_lald hx hb hw hbL hbb k (by omega) (by omega) dX7_isTooGreat_33 ?_
          refine lv_lload_n hx hb dX7_isTooGreat_34 rfl (lv_at hl 0 rfl) ?_
          refine n_lcmp_le (tgt := 41) hx hb dX7_isTooGreat_35 dX7_isTooGreat_36 (by decide) (fun hd2 => ?_) (fun hd2 => ?_)
          · skip
            refine lv_iinc (v := nI (k + 1)) (lv' := [(1, .int (nI (k + 1))), (2, .long (bndC k)), (0, .ref b)]) hx hb dX7_isTooGreat_41 hl (k := 1) rfl (w_inc _) (by decide) rfl (fun ls hl => ?_)
            refine lv_goto (tgt := 2) hx hb dX7_isTooGreat_44 (by decide) ?_
            exact ih (k + 1) ls (by omega) (by omega) (fun j hj => (Nat.lt_or_eq_of_le (Nat.le_of_lt_succ hj)).elim (hok j) (fun q => by rw [q]; exact ⟨hc, hd2⟩)) (lv_sub hl [0, 2] rfl)
          · skip
            refine lv_iconst (v := nI 1) hx hb dX7_isTooGreat_39 (by decide) ?_
            exact k1 ls ⟨k, h, fun q => q.2 hd2⟩
      refine lv_iload_n hx hb dX7_isTooGreat_8 rfl (lv_at hl 0 rfl) ?_
      refine lv_bipush (v := nI 10) hx hb dX7_isTooGreat_9 (by decide) ?_
      refine n_icmp_gt (tgt := 20) hx hb (by omega) (by omega) dX7_isTooGreat_11 (by decide) (fun hk2 => ?_) (fun hk2 => ?_)
      · skip
        refine lv_lconst (v := 0) hx hb dX7_isTooGreat_20 (by decide) ?_
        rw [show (0 : Int64) = bndC k from (if_neg (by omega)).symm]
        exact join ls hl
      · skip
        refine lv_ldc2 (v := 9999) hx hb hown (hts _ u_2) dX7_isTooGreat_14 ?_
        refine lv_goto (tgt := 21) hx hb dX7_isTooGreat_17 (by decide) ?_
        rw [show (9999 : Int64) = bndC k from (if_pos (by omega)).symm]
        exact join ls hl
set_option maxRecDepth 100000 in
set_option maxHeartbeats 4000000 in
theorem c_X7_isTooGreat (l : Launch) (G : gG) (L : List Nat) (f : Nat → va_E) (sz : Nat) (b n : Nat) (r : Nat → Int64) (hbL : b ∈ L) (hbb : f b = eJ G n r) (hn : n < 2 ^ 31) :
    Met l yX7_isTooGreat (uW yX7_isTooGreat cX7_isTooGreat 4 (some .boolean)) { frames := 0, cells := 0, slots := 0, locals := 0 } (wIn G [.ref b] L f sz) (va_Qi (fun (r9 : Int32) (g : Nat → va_E) => ((r9 = 1 ∧ ∃ k, k < n ∧ ¬ okC k (r k)) ∨ (r9 = 0 ∧ ∀ k, k < n → okC k (r k))) ∧ g = f) (fun g => wAt G (wA L f sz) L g) (wA L f sz)) 0 0 (wA L f sz) := by
  refine wEnter (by decide) (Nat.le_of_ble_eq_true rfl) ?_
  intro p e s m below meth c ls cx hinit hl hsz hw
  obtain ⟨hx, hb, hr, hml, hown, hts, hlocks⟩ := id cx
  have hown : s.vm.findClass RX7 = some m.cls := hown
  have hl : lv_has ls 4 [(0, .ref b)] := hl
  generalize wA L f sz = A at hw ⊢
  refine lv_iconst (v := nI 0) hx hb dX7_isTooGreat_0 (by decide) ?_
  refine lv_istore_n (lv' := [(1, .int (nI 0)), (0, .ref b)]) hx hb dX7_isTooGreat_1 rfl hl (by decide) rfl (fun ls hl => ?_)
  refine lp_X7_isTooGreat hx hb hown hts hw hbL hbb hn (fun ls h => ?_) (fun ls h => ?_) (n + 1) 0 ls (Nat.zero_le n) (by omega) (fun j hj => absurd hj (by omega)) (lv_sub hl [0, 1] rfl)
  · skip
    exact w_zret (lf := fun g => (L, g)) hx hb hr hlocks (by first | rfl | decide) f hw (⟨Or.inl ⟨rfl, h⟩, rfl⟩) dX7_isTooGreat_40
  · skip
    exact w_zret (lf := fun g => (L, g)) hx hb hr hlocks (by first | rfl | decide) f hw (⟨Or.inr ⟨rfl, h⟩, rfl⟩) dX7_isTooGreat_48
