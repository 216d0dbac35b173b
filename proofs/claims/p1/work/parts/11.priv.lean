theorem u_0 : Cond.fieldLink RX7 11 "LiftFactors" "coefficients" "[[I" ∈ uU := uU_in (by decide +kernel) (by decide +kernel)
theorem ne_E {f : Nat → va_E} {a b : Nat} {e1 e2 : va_E} (h1 : f a = e1) (h2 : f b = e2) (h : e1 ≠ e2) : b ≠ a := fun q => h (by rw [← h1, ← h2, q])
theorem nI_i64 {k : Nat} (h : k < 2 ^ 31) : (nI k).toInt64 = lN k := nI_l h
set_option maxRecDepth 100000 in
set_option maxHeartbeats 4000000 in
theorem lp_X7_load {p : Program} {l : Launch} {e : Env} {R : Room} {s : State} {m : MethodId} {args : Array Value} {below : List Frame} {meth : Method} {c : Code} {cells slots : Nat} {Q : State → Prop} {G : gG} {A : Nat → Prop} {H0 : Heap} {L : List Nat} (hx : p.tables.exec = Jvm.exec) (hb : c.code = cX7_load) (hown : s.vm.findClass RX7 = some m.cls) (hts : ∀ w ∈ uU, w.before args s = true) {f : Nat → va_E} {x b co j : Nat} {fs : List Value} {cr0 : Nat → Option Nat} {cr : Nat → Nat} {cv : Nat → Nat → Int32} {r : Nat → Int64} (hxL : x ∈ L) (hxo : f x = eO 7 fs) (hfs0 : fs[0]? = some (.ref co)) (hco : f co = eII G 80 cr0) (hcoL : co ∈ L) (hcr : ∀ j, j < 80 → cr0 j = some (cr j)) (hcrL : ∀ j, j < 80 → cr j ∈ L) (hcv : ∀ j, j < 80 → f (cr j) = eI G 11 (cv j)) (hbL : b ∈ L) (hbb : f b = eJ G 11 r) (hj : j < 80) (kk : ∀ H locs ls, wH G A H0 s L (va_up f b (eJ G 11 (prL (fun k => (cv j k).toInt64) r 11))) H locs → ls.size = 4 → W p l e R s m args below meth c H locs cells slots Q (F0 m 26 ls [])) :
    ∀ (d k : Nat) (H : Heap) (locs : List Loc) (ls : Array Slot), k ≤ 11 → 11 + 1 ≤ k + d → wH G A H0 s L (va_up f b (eJ G 11 (prL (fun k => (cv j k).toInt64) r k))) H locs → lv_has ls 4 [(3, .int (nI k)), (0, .ref x), (1, .int (nI j)), (2, .ref b)] → W p l e R s m args below meth c H locs cells slots Q (F0 m 2 ls []) := by
  have hne_x : x ≠ b := ne_E hbb hxo (by simp)
  have hne_co : co ≠ b := ne_E hbb hco (by simp)
  have hne_crj : cr j ≠ b := ne_E hbb (hcv j hj) (by simp)
  intro d
  induction d with
  | zero => intro k H locs ls h1 h2; exact absurd h2 (by omega)
  | succ d ih =>
    intro k H locs ls hk hd hw hl
    refine lv_iload_n hx hb dX7_load_2 rfl (lv_at hl 0 rfl) ?_
    refine lv_bipush (v := nI 11) hx hb dX7_load_3 (by decide) ?_
    refine n_icmp_ge (tgt := 26) hx hb (by omega) (by omega) dX7_load_5 (by decide) (fun h => ?_) (fun h => ?_)
    · rw [show k = 11 by omega] at hw
      exact kk H locs ls hw hl.1
    · skip
      refine lv_aload_n hx hb dX7_load_8 rfl (lv_at hl 3 rfl) ?_
      refine lv_iload_n hx hb dX7_load_9 rfl (lv_at hl 0 rfl) ?_
      refine lv_aload_n hx hb dX7_load_10 rfl (lv_at hl 1 rfl) ?_
      refine w_get (C := RX7) (T := TX7) (N := 15) (ci := 7) (ref := "LiftFactors") (v := .ref co) hx hb hts inX7_u hown hw hxL ((va_up_ne _ _ (hne_x)).trans hxo) rfl 0 (by decide) u_0 rfl hfs0 dX7_load_11 ?_
      refine lv_iload_n hx hb dX7_load_14 rfl (lv_at hl 2 rfl) ?_
      refine n_aald hx hb hw hcoL (Or.inl ((va_up_ne _ _ (hne_co)).trans hco)) j (by omega) (by omega) (hcr _ hj) dX7_load_15 ?_
      refine lv_iload_n hx hb dX7_load_16 rfl (lv_at hl 0 rfl) ?_
      refine n_iald hx hb hw (hcrL _ hj) ((va_up_ne _ _ (hne_crj)).trans (hcv _ hj)) k (by omega) (by omega) dX7_load_17 ?_
      refine lv_i2l (v := ((cv j) k).toInt64) hx hb dX7_load_18 rfl ?_
      refine n_last hx hb hw hbL (va_up_eq _ _ _) k (by omega) (by omega) dX7_load_19 (fun H locs hw => ?_)
      rw [va_uu] at hw
      refine lv_iinc (v := nI (k + 1)) (lv' := [(3, .int (nI (k + 1))), (0, .ref x), (1, .int (nI j)), (2, .ref b)]) hx hb dX7_load_20 hl (k := 0) rfl (w_inc _) (by decide) rfl (fun ls hl => ?_)
      refine lv_goto (tgt := 2) hx hb dX7_load_23 (by decide) ?_
      rw [prL_s (fun k => (cv j k).toInt64) r k] at hw
      exact ih (k + 1) H locs ls (by omega) (by omega) hw (lv_sub hl [0, 1, 2, 3] rfl)
set_option maxRecDepth 100000 in
set_option maxHeartbeats 4000000 in
theorem c_X7_load (l : Launch) (G : gG) (L : List Nat) (f : Nat → va_E) (sz : Nat) (x b co j : Nat) (fs : List Value) (cr0 : Nat → Option Nat) (cr : Nat → Nat) (cv : Nat → Nat → Int32) (r : Nat → Int64) (hxL : x ∈ L) (hxo : f x = eO 7 fs) (hfs0 : fs[0]? = some (.ref co)) (hco : f co = eII G 80 cr0) (hcoL : co ∈ L) (hcr : ∀ j, j < 80 → cr0 j = some (cr j)) (hcrL : ∀ j, j < 80 → cr j ∈ L) (hcv : ∀ j, j < 80 → f (cr j) = eI G 11 (cv j)) (hbL : b ∈ L) (hbb : f b = eJ G 11 r) (hj : j < 80) :
    Met l yX7_load (uW yX7_load cX7_load 4 none) { frames := 0, cells := 0, slots := 0, locals := 0 } (wIn G [.ref x, .int (nI j), .ref b] L f sz) (va_Qv (fun (g : Nat → va_E) => g = va_up f b (eJ G 11 (prL (fun k => (cv j k).toInt64) r 11))) (fun g => wAt G (wA L f sz) L g) (wA L f sz)) 0 0 (wA L f sz) := by
  refine wEnter (by decide) (Nat.le_of_ble_eq_true rfl) ?_
  intro p e s m below meth c ls cx hinit hl hsz hw
  obtain ⟨hx, hb, hr, hml, hown, hts, hlocks⟩ := id cx
  have hown : s.vm.findClass RX7 = some m.cls := hown
  have hl : lv_has ls 4 [(0, .ref x), (1, .int (nI j)), (2, .ref b)] := hl
  generalize wA L f sz = A at hw ⊢
  rw [← va_us f b hbb] at hw
  refine lv_iconst (v := nI 0) hx hb dX7_load_0 (by decide) ?_
  refine lv_istore_n (lv' := [(3, .int (nI 0)), (0, .ref x), (1, .int (nI j)), (2, .ref b)]) hx hb dX7_load_1 rfl hl (by decide) rfl (fun ls hl => ?_)
  refine lp_X7_load (f := f) (r := r) hx hb hown hts hxL hxo hfs0 hco hcoL hcr hcrL hcv hbL hbb hj (fun H locs ls hw _ => ?_) 12 0 _ _ ls (by omega) (by omega) (by rw [prL_0]; exact hw) (lv_sub hl [0, 1, 2, 3] rfl)
  exact w_vret (lf := fun g => (L, g)) hx hb hr hlocks _ hw (rfl) dX7_load_26
