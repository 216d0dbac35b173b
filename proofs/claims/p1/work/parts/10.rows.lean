/-- one more than the degree of the row r of n places -/
def dgp (r : Nat → Int64) : Nat → Nat
  | 0 => 0
  | n + 1 => if r n = 0 then dgp r n else n + 1
theorem dgp_le (r : Nat → Int64) : ∀ n, dgp r n ≤ n
  | 0 => Nat.le_refl 0
  | n + 1 => by
    unfold dgp
    by_cases h : r n = 0
    · rw [if_pos h]; exact Nat.le_succ_of_le (dgp_le r n)
    · rw [if_neg h]; exact Nat.le_refl _
theorem nI_m1_neg : nI 0 - nI 1 < 0 := by decide
theorem nI_sub1 (j : Nat) : nI (j + 1) - nI 1 = nI j := nI_pred j
theorem nI_dec1 (j : Nat) : nI j + Int32.ofInt (-1) = nI j - nI 1 := by
  rw [Int32.sub_eq_add_neg]; rfl
set_option maxRecDepth 100000 in
set_option maxHeartbeats 4000000 in
theorem lp_X5_degree {p : Program} {l : Launch} {e : Env} {R : Room} {s : State} {m : MethodId} {args : Array Value} {below : List Frame} {meth : Method} {c : Code} {cells slots : Nat} {Q : State → Prop} {G : gG} {A : Nat → Prop} {H0 : Heap} {L : List Nat} (hx : p.tables.exec = Jvm.exec) (hb : c.code = cX5_degree) {f : Nat → va_E} {H : Heap} {locs : List Loc} (hw : wH G A H0 s L f H locs) {a n : Nat} {r : Nat → Int64} (haL : a ∈ L) (ha : f a = eJ G n r) (hn : n < 2 ^ 31) (kk : ∀ ls, lv_has ls 2 [(1, .int (nI (dgp r n) - nI 1)), (0, .ref a)] → W p l e R s m args below meth c H locs cells slots Q (F0 m 23 ls [])) :
    ∀ j : Nat, j ≤ n → dgp r n = dgp r j → ∀ ls : Array Slot, lv_has ls 2 [(1, .int (nI j - nI 1)), (0, .ref a)] → W p l e R s m args below meth c H locs cells slots Q (F0 m 5 ls []) := by
  intro j
  induction j with
  | zero =>
    intro _ hd ls hl
    refine lv_iload_n hx hb dX5_degree_5 rfl (lv_at hl 0 rfl) ?_
    refine lv_if_lt (tgt := 23) hx hb dX5_degree_6 (by decide) (fun _ => ?_) (fun h => absurd nI_m1_neg h)
    exact kk ls (by rw [hd]; exact hl)
  | succ j ih =>
    intro hj hd ls hl
    refine lv_iload_n hx hb dX5_degree_5 rfl (lv_at hl 0 rfl) ?_
    refine lv_if_lt (tgt := 23) hx hb dX5_degree_6 (by decide) (fun h => absurd h (by rw [nI_sub1]; exact nI_pos (by omega))) (fun _ => ?_)
    refine lv_aload_n hx hb dX5_degree_9 rfl (lv_at hl 1 rfl) ?_
    refine lv_iload_n hx hb dX5_degree_10 rfl (lv_at hl 0 rfl) ?_
    refine w_ti (nI_sub1 j) ?_
    refine n_lald hx hb hw haL ha j (by omega) (by omega) dX5_degree_11 ?_
    refine lv_lconst (v := 0) hx hb dX5_degree_12 (by decide) ?_
    refine n_lcmp_ne (tgt := 23) hx hb dX5_degree_13 dX5_degree_14 (by decide) (fun h => ?_) (fun h => ?_)
    · exact kk ls (by rw [hd, show dgp r (j + 1) = j + 1 from if_neg h]; exact hl)
    · refine lv_iinc (v := nI j - nI 1) (lv' := [(1, .int (nI j - nI 1)), (0, .ref a)]) hx hb dX5_degree_17 hl (k := 0) rfl (by rw [nI_sub1]; exact nI_dec1 j) (by decide) rfl (fun ls hl => ?_)
      refine lv_goto (tgt := 5) hx hb dX5_degree_20 (by decide) ?_
      exact ih (by omega) (hd.trans (if_pos h)) ls hl
set_option maxRecDepth 100000 in
set_option maxHeartbeats 4000000 in
/-- the degree: one less than dgp -/
theorem c_X5_degree (l : Launch) (G : gG) (L : List Nat) (f : Nat → va_E) (sz : Nat) (a n : Nat) (r : Nat → Int64) (haL : a ∈ L) (ha : f a = eJ G n r) (hn : n < 2 ^ 31) :
    Met l yX5_degree (uW yX5_degree cX5_degree 2 (some .int)) { frames := 0, cells := 0, slots := 0, locals := 0 } (wIn G [.ref a] L f sz) (va_Qi (fun (r9 : Int32) (g : Nat → va_E) => r9 = nI (dgp r n) - nI 1 ∧ g = f) (fun g => wAt G (wA L f sz) L g) (wA L f sz)) 0 0 (wA L f sz) := by
  refine wEnter (by decide) (Nat.le_of_ble_eq_true rfl) ?_
  intro p e s m below meth c ls cx hinit hl hsz hw
  obtain ⟨hx, hb, hr, hml, hown, hts, hlocks⟩ := id cx
  have hown : s.vm.findClass RX5 = some m.cls := hown
  have hl : lv_has ls 2 [(0, .ref a)] := hl
  generalize wA L f sz = A at hw ⊢
  refine lv_aload_n hx hb dX5_degree_0 rfl (lv_at hl 0 rfl) ?_
  refine w_lenJ hx hb hw haL ha dX5_degree_1 ?_
  refine lv_iconst (v := nI 1) hx hb dX5_degree_2 (by decide) ?_
  refine lv_isub hx hb dX5_degree_3 ?_
  refine lv_istore_n (lv' := [(1, .int ((nI n) - (nI 1))), (0, .ref a)]) hx hb dX5_degree_4 rfl hl (by decide) rfl (fun ls hl => ?_)
  refine lp_X5_degree hx hb hw haL ha hn (fun ls hl => ?_) n (Nat.le_refl n) rfl ls hl
  refine lv_iload_n hx hb dX5_degree_23 rfl (lv_at hl 0 rfl) ?_
  exact w_iret (lf := fun g => (L, g)) hx hb hr hlocks f hw (⟨rfl, rfl⟩) dX5_degree_24
/-- the first k places as in v, the others as in r -/
def prL {α : Type} (v r : Nat → α) (k : Nat) : Nat → α := fun j => if j < k then v j else r j
theorem prL_0 {α : Type} (v r : Nat → α) : prL v r 0 = r := by funext j; simp [prL]
theorem prL_s (v r : Nat → Int64) (k : Nat) : vp_updL (prL v r k) k (v k) = prL v r (k + 1) := by
  funext j
  by_cases h : j = k
  · subst h; simp [vp_updL, prL]
  · by_cases h2 : j < k
    · simp [vp_updL, prL, h, h2, Nat.lt_succ_of_lt h2]
    · simp [vp_updL, prL, h, h2, show ¬ j < k + 1 by omega]
theorem prI_s (v r : Nat → Int32) (k : Nat) : upd (prL v r k) k (v k) = prL v r (k + 1) := by
  funext j
  by_cases h : j = k
  · subst h; simp [upd, prL]
  · by_cases h2 : j < k
    · simp [upd, prL, h, h2, Nat.lt_succ_of_lt h2]
    · simp [upd, prL, h, h2, show ¬ j < k + 1 by omega]
set_option maxRecDepth 100000 in
set_option maxHeartbeats 4000000 in
theorem lp_J7_fillJ {p : Program} {l : Launch} {e : Env} {R : Room} {s : State} {m : MethodId} {args : Array Value} {below : List Frame} {meth : Method} {c : Code} {cells slots : Nat} {Q : State → Prop} {G : gG} {A : Nat → Prop} {H0 : Heap} {L : List Nat} (hx : p.tables.exec = Jvm.exec) (hb : c.code = cJ7_fill_d0a16) {f : Nat → va_E} {a n : Nat} {r : Nat → Int64} {x : Int64} (haL : a ∈ L) (hn : n < 2 ^ 31) (kk : ∀ H locs ls, wH G A H0 s L (va_up f a (eJ G n (prL (fun _ => x) r n))) H locs → ls.size = 5 → W p l e R s m args below meth c H locs cells slots Q (F0 m 22 ls [])) :
    ∀ (d k : Nat) (H : Heap) (locs : List Loc) (ls : Array Slot), k ≤ n → n + 1 ≤ k + d → wH G A H0 s L (va_up f a (eJ G n (prL (fun _ => x) r k))) H locs → lv_has ls 5 [(3, .int (nI k)), (4, .int (nI n)), (0, .ref a), (1, .long x)] → W p l e R s m args below meth c H locs cells slots Q (F0 m 6 ls []) := by
  intro d
  induction d with
  | zero => intro k H locs ls h1 h2; exact absurd h2 (by omega)
  | succ d ih =>
    intro k H locs ls hk hd hw hl
    refine lv_iload_n hx hb dJ7_fill_d0a16_6 rfl (lv_at hl 0 rfl) ?_
    refine lv_iload hx hb dJ7_fill_d0a16_7 (lv_at hl 1 rfl) ?_
    refine n_icmp_ge (tgt := 22) hx hb (by omega) (by omega) dJ7_fill_d0a16_9 (by decide) (fun h => ?_) (fun h => ?_)
    · rw [show k = n by omega] at hw
      exact kk H locs ls hw hl.1
    · skip
      refine lv_aload_n hx hb dJ7_fill_d0a16_12 rfl (lv_at hl 2 rfl) ?_
      refine lv_iload_n hx hb dJ7_fill_d0a16_13 rfl (lv_at hl 0 rfl) ?_
      refine lv_lload_n hx hb dJ7_fill_d0a16_14 rfl (lv_at hl 3 rfl) ?_
      refine n_last hx hb hw haL (va_up_eq _ _ _) k (by omega) (by omega) dJ7_fill_d0a16_15 (fun H locs hw => ?_)
      rw [va_uu] at hw
      refine lv_iinc (v := nI (k + 1)) (lv' := [(3, .int (nI (k + 1))), (4, .int (nI n)), (0, .ref a), (1, .long x)]) hx hb dJ7_fill_d0a16_16 hl (k := 0) rfl (w_inc _) (by decide) rfl (fun ls hl => ?_)
      refine lv_goto (tgt := 6) hx hb dJ7_fill_d0a16_19 (by decide) ?_
      rw [prL_s (fun _ => x) r k] at hw
      exact ih (k + 1) H locs ls (by omega) (by omega) hw (lv_sub hl [0, 1, 2, 3] rfl)
set_option maxRecDepth 100000 in
set_option maxHeartbeats 4000000 in
theorem c_J7_fillJ (l : Launch) (G : gG) (L : List Nat) (f : Nat → va_E) (sz : Nat) (a n : Nat) (r : Nat → Int64) (x : Int64) (haL : a ∈ L) (ha : f a = eJ G n r) (hn : n < 2 ^ 31) :
    Met l yJ7_fill_d0a16 (uW yJ7_fill_d0a16 cJ7_fill_d0a16 5 none) { frames := 0, cells := 0, slots := 0, locals := 0 } (wIn G [.ref a, .long x] L f sz) (va_Qv (fun (g : Nat → va_E) => g = va_up f a (eJ G n (prL (fun _ => x) r n))) (fun g => wAt G (wA L f sz) L g) (wA L f sz)) 0 0 (wA L f sz) := by
  refine wEnter (by decide) (Nat.le_of_ble_eq_true rfl) ?_
  intro p e s m below meth c ls cx hinit hl hsz hw
  obtain ⟨hx, hb, hr, hml, hown, hts, hlocks⟩ := id cx
  have hown : s.vm.findClass RJ7 = some m.cls := hown
  have hl : lv_has ls 5 [(0, .ref a), (1, .long x)] := hl
  generalize wA L f sz = A at hw ⊢
  rw [← va_us f a ha] at hw
  refine lv_iconst (v := nI 0) hx hb dJ7_fill_d0a16_0 (by decide) ?_
  refine lv_istore_n (lv' := [(3, .int (nI 0)), (0, .ref a), (1, .long x)]) hx hb dJ7_fill_d0a16_1 rfl hl (by decide) rfl (fun ls hl => ?_)
  refine lv_aload_n hx hb dJ7_fill_d0a16_2 rfl (lv_at hl 1 rfl) ?_
  refine w_lenJ hx hb hw haL (va_up_eq _ _ _) dJ7_fill_d0a16_3 ?_
  refine lv_istore (lv' := [(4, .int (nI n)), (3, .int (nI 0)), (0, .ref a), (1, .long x)]) hx hb dJ7_fill_d0a16_4 hl (by decide) rfl (fun ls hl => ?_)
  refine lp_J7_fillJ (f := f) (r := r) hx hb haL hn (fun H locs ls hw _ => ?_) (n + 1) 0 _ _ ls (Nat.zero_le n) (by omega) (by rw [prL_0]; exact hw) (lv_sub hl [1, 0, 2, 3] rfl)
  exact w_vret (lf := fun g => (L, g)) hx hb hr hlocks _ hw (rfl) dJ7_fill_d0a16_22
