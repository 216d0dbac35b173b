/-! the class: rows, what is used of the JDK -/
section MCls1
def row (a : Nat) : Prop := kd a = 2 ∧ kn a = 11
def chJ (As : List Nat) (M M' : MI) : Prop := M'.2 = M.2 ∧ ∀ k i, k ∉ As → M'.1 k i = M.1 k i
theorem chJ_refl (As : List Nat) (M : MI) : chJ As M M := ⟨rfl, fun _ _ _ => rfl⟩
theorem chJ_trans {As Bs : List Nat} {M M' M'' : MI} (h : chJ As M M') (h1 : chJ Bs M' M'') : chJ (As ++ Bs) M M'' := ⟨h1.1.trans h.1, fun k i hk => by
  simp only [List.mem_append, not_or] at hk
  exact (h1.2 k i hk.2).trans (h.2 k i hk.1)⟩
theorem chJ_mono {As Bs : List Nat} {M M' : MI} (h : chJ As M M') (hs : ∀ x ∈ As, x ∈ Bs) : chJ Bs M M' := ⟨h.1, fun k i hk => h.2 k i (fun z => hk (hs k z))⟩
theorem chJ_wr (M : MI) (a lo j : Nat) (v : Nat → Int) : chJ [a] M (wrM M a lo j v) := ⟨rfl, fun k i hk => by rw [wrM_1, if_neg (fun z => hk (by simp [z.1]))]⟩
theorem chJ_oJ (M : MI) (a i : Nat) (x : Int) : chJ [a] M (oJ M a i x) := ⟨rfl, fun k j hk => by rw [oJ_1, if_neg (fun z => hk (by simp [z.1]))]⟩
def CZ {S : Type} [Lean.Grind.CommRing S] (co : S → Nat → Int) (M : MI) (a : Nat) (f : S) : Prop := (∀ i, i < 11 → M.1 a i = co f i) ∧ nu co f ≤ 11
def CP {R T : Type} [Lean.Grind.CommRing R] [Lean.Grind.CommRing T] (ct : T → Nat → R) (φ : Int → R) (p : Nat) (M : MI) (a : Nat) (f : T) : Prop := (∀ i, i < 11 → 0 ≤ M.1 a i ∧ M.1 a i < p ∧ φ (M.1 a i) = ct f i) ∧ nu ct f ≤ 11
theorem CZ_ch {S : Type} [Lean.Grind.CommRing S] {co : S → Nat → Int} {M M' : MI} {a : Nat} {f : S} {As : List Nat} (h : CZ co M a f) (hc : chJ As M M') (ha : a ∉ As) : CZ co M' a f := ⟨fun i hi => by rw [hc.2 a i ha]; exact h.1 i hi, h.2⟩
theorem CP_ch {R T : Type} [Lean.Grind.CommRing R] [Lean.Grind.CommRing T] {ct : T → Nat → R} {φ : Int → R} {p : Nat} {M M' : MI} {a : Nat} {f : T} {As : List Nat} (h : CP ct φ p M a f) (hc : chJ As M M') (ha : a ∉ As) : CP ct φ p M' a f := ⟨fun i hi => by rw [hc.2 a i ha]; exact h.1 i hi, h.2⟩
theorem j_abs {x : Int} (hx : inJ x) : f_J9_abs_067f4 x = some ((x.natAbs : Nat) : Int) := by
  unfold f_J9_abs_067f4
  rw [gJ_s hx (by omega), bs]
  by_cases h : 0 ≤ x
  · rw [if_pos h, bs]; exact congrArg some (by omega)
  · rw [if_neg h, bs]; exact congrArg some (by omega)
theorem oxorJ_sg {x y : Int} (hx : inJ x) (hy : 0 < y ∧ y ≤ 9223372036854775807) : inJ (oxorJ x y) ∧ (0 ≤ oxorJ x y ↔ 0 ≤ x) := by
  unfold oxorJ
  have e : (Int64.ofInt x ^^^ Int64.ofInt y).toInt = ((Int64.ofInt x).toBitVec ^^^ (Int64.ofInt y).toBitVec).toInt := rfl
  have hxi : (Int64.ofInt x).toBitVec.toInt = x := i6_t hx
  have hyi : (Int64.ofInt y).toBitVec.toInt = y := i6_t (by omega)
  have hm : ((Int64.ofInt x).toBitVec ^^^ (Int64.ofInt y).toBitVec).msb = ((Int64.ofInt x).toBitVec.msb ^^ (Int64.ofInt y).toBitVec.msb) := BitVec.msb_xor
  rw [BitVec.msb_eq_toInt, BitVec.msb_eq_toInt, BitVec.msb_eq_toInt, hxi, hyi, decide_eq_false (show ¬ y < 0 by omega), Bool.xor_false] at hm
  rw [e]
  have hd := decide_eq_decide.mp hm
  generalize ((Int64.ofInt x).toBitVec ^^^ (Int64.ofInt y).toBitVec) = z at hd ⊢
  have hl := BitVec.le_toInt z
  have hu := BitVec.toInt_lt (x := z)
  simp at hl hu
  refine ⟨by omega, by omega⟩
theorem oxorI_sg {x y : Int} (hx : inI x) (hy : 0 < y ∧ y ≤ 2147483647) : inI (oxorI x y) ∧ (0 ≤ oxorI x y ↔ 0 ≤ x) := by
  unfold oxorI
  have e : (Int32.ofInt x ^^^ Int32.ofInt y).toInt = ((Int32.ofInt x).toBitVec ^^^ (Int32.ofInt y).toBitVec).toInt := rfl
  have hxi : (Int32.ofInt x).toBitVec.toInt = x := i3_t hx
  have hyi : (Int32.ofInt y).toBitVec.toInt = y := i3_t (by omega)
  have hm : ((Int32.ofInt x).toBitVec ^^^ (Int32.ofInt y).toBitVec).msb = ((Int32.ofInt x).toBitVec.msb ^^ (Int32.ofInt y).toBitVec.msb) := BitVec.msb_xor
  rw [BitVec.msb_eq_toInt, BitVec.msb_eq_toInt, BitVec.msb_eq_toInt, hxi, hyi, decide_eq_false (show ¬ y < 0 by omega), Bool.xor_false] at hm
  rw [e]
  have hd := decide_eq_decide.mp hm
  generalize ((Int32.ofInt x).toBitVec ^^^ (Int32.ofInt y).toBitVec) = z at hd ⊢
  have hl := BitVec.le_toInt z
  have hu := BitVec.toInt_lt (x := z)
  simp at hl hu
  refine ⟨by omega, by omega⟩
theorem fm_val {x y : Int} (hy : 0 < y) (hx : x < 0) : x % y = if x.tmod y = 0 then 0 else x.tmod y + y := by
  have h := tmod_fix (x := x) hy
  have h1 : x.tmod y ≤ 0 := by
    have h2 := Int.neg_tmod (-x) y
    have h3 := Int.tmod_nonneg y (show 0 ≤ -x by omega)
    rw [Int.neg_neg] at h2
    omega
  rw [← h]
  by_cases z : x.tmod y = 0
  · rw [if_pos z, if_pos (by omega), z]
  · rw [if_neg z, if_neg (by omega)]
theorem j_floorMod {x y : Int} (hx : -9223372036854775807 ≤ x ∧ x ≤ 9223372036854775807) (hy : 0 < y ∧ y ≤ 9223372036854775807) : f_J9_floorMod_f86c9 x y = some (x % y) := by
  obtain ⟨h1, h2⟩ := oxorJ_sg (x := x) (y := y) (by omega) hy
  have er : orJ x y = some (x.tmod y) := by unfold orJ; rw [if_pos ⟨by omega, by omega, by omega, by omega⟩]
  have hb : (x.tmod y).natAbs ≤ x.natAbs := by rw [Int.natAbs_tmod]; exact Nat.mod_le _ _
  unfold f_J9_floorMod_f86c9
  rw [er, bs, gJ_s h1 (by omega), bs]
  by_cases z : 0 ≤ x
  · rw [if_pos (h2.mpr z), tmod_nn z]
  · rw [if_neg (fun q => z (h2.mp q)), gJ_s (by omega) (by omega), bs, fm_val hy.1 (by omega)]
    by_cases w : x.tmod y = 0
    · rw [if_pos w, if_pos w, w]
    · rw [if_neg w, if_neg w]
theorem j_floorModI {x y : Int} (hx : inI x) (hx2 : x ≠ -2147483648) (hy : 0 < y ∧ y ≤ 2147483647) : f_J9_floorMod_7cf53 x y = some (x % y) := by
  obtain ⟨h1, h2⟩ := oxorI_sg (x := x) (y := y) hx hy
  have er : orI x y = some (x.tmod y) := by unfold orI; rw [if_pos ⟨by omega, by omega, by omega, by omega⟩]
  have hb : (x.tmod y).natAbs ≤ x.natAbs := by rw [Int.natAbs_tmod]; exact Nat.mod_le _ _
  unfold f_J9_floorMod_7cf53
  rw [er, bs, gI_s h1 (by omega), bs]
  by_cases z : 0 ≤ x
  · rw [if_pos (h2.mpr z), tmod_nn z]
  · rw [if_neg (fun q => z (h2.mp q)), gI_s (by omega) (by omega), bs, fm_val hy.1 (by omega)]
    by_cases w : x.tmod y = 0
    · rw [if_pos w, if_pos w, w]
    · rw [if_neg w, if_neg w]
theorem j_maxJ {x y : Int} (hx : inJ x) (hy : inJ y) : f_J9_max_f86c9 x y = some (if x < y then y else x) := by
  unfold f_J9_max_f86c9
  rw [gJ_s hx hy, bs]
  split <;> rfl
theorem j_maxI {x y : Int} (hx : inI x) (hy : inI y) : f_J9_max_7cf53 x y = some (if x < y then y else x) := by
  unfold f_J9_max_7cf53
  rw [gI_s hx hy, bs]
  split <;> rfl
theorem j_minJ {x y : Int} (hx : inJ x) (hy : inJ y) : f_J9_min_f86c9 x y = some (if y < x then y else x) := by
  unfold f_J9_min_f86c9
  rw [gJ_s hx hy, bs]
  split <;> rfl
theorem j_fill {M : MI} {a : Nat} (hk : kd a = 2) (hkn : kn a ≤ 100) (x : Int) {n : Nat} (hn : 18446744073709551616 ≤ n) : f_J7_fill_d0a16 n a x M = some (wrM M a 0 (kn a) (fun _ => x)) := by
  have e := lp_for (step := l_J7_fill_d0a16_6 a x (kn a : Int)) (fun k => (wrM M a 0 k (fun _ => x), (k : Int))) (wrM M a 0 (kn a) (fun _ => x)) (kn a) n (fun k hk' => by
    unfold l_J7_fill_d0a16_6
    dsimp only
    rw [gI_s (by omega) (by omega), bs, if_neg (by omega), osJ_n k hk rfl hk', bs]
    have := wrM_s M a 0 k (fun _ => x)
    rw [Nat.zero_add] at this
    rw [this]
    rfl) (by
    unfold l_J7_fill_d0a16_6
    dsimp only
    rw [gI_s (by omega) (by omega), bs, if_pos (by omega)]) (by omega)
  rw [wrM_0] at e
  unfold f_J7_fill_d0a16
  rw [show olA a = some ((kn a : Nat) : Int) from if_pos (Or.inr hk), bs]
  have e' : lpF (l_J7_fill_d0a16_6 a x (kn a : Int)) n (M, 0) = some (wrM M a 0 (kn a) (fun _ => x)) := e
  rw [e', bs]
theorem c_degreeG {R S : Type} [Lean.Grind.CommRing R] [Lean.Grind.CommRing S] {co : S → Nat → R} (P : isPol co) {M : MI} (hM : ok M) {a : Nat} (ha : row a) {f : S} (hz : ∀ i, i < 11 → (M.1 a i = 0 ↔ co f i = 0)) (hN : nu co f ≤ 11) {n : Nat} (hn : 18446744073709551616 ≤ n) : f_X5_degree n a M = some ((nu co f : Int) - 1) := by
  have e := lp_for (step := l_X5_degree_5 a M) (fun k => ((10 : Int) - k)) ((nu co f : Int) - 1) (11 - nu co f) n (fun k hk => by
    have h0 : M.1 a (10 - k) = 0 := (hz _ (by omega)).mpr (nu_hi P f (by omega))
    unfold l_X5_degree_5
    rw [gI_s (by omega) (by omega), bs, if_neg (by omega), odJ_n (10 - k) ha.1 (by omega) (by rw [ha.2]; omega), bs, h0, gJ_s (by omega) (by omega), bs, if_pos rfl]
    exact congrArg (fun z => some (Sum.inr z)) (by omega)) (by
    unfold l_X5_degree_5
    rw [gI_s (by omega) (by omega), bs]
    by_cases h0 : nu co f = 0
    · rw [if_pos (by omega)]
      exact congrArg (fun z => some (Sum.inl z)) (by omega)
    · have h1 : M.1 a (nu co f - 1) ≠ 0 := fun z => nu_top P f h0 ((hz _ (by omega)).mp z)
      rw [if_neg (by omega), odJ_n (nu co f - 1) ha.1 (by omega) (by rw [ha.2]; omega), bs, gJ_s (hM.1 _ _) (by omega), bs, if_neg h1]
      exact congrArg (fun z => some (Sum.inl z)) (by omega)) (by omega)
  unfold f_X5_degree
  rw [show olA a = some ((kn a : Nat) : Int) from if_pos (Or.inr ha.1), bs, ha.2]
  have e' : lpF (l_X5_degree_5 a M) n (((11 : Nat) : Int) - 1) = some ((nu co f : Int) - 1) := e
  rw [e', bs]
theorem c_degree {S : Type} [Lean.Grind.CommRing S] {co : S → Nat → Int} (P : isPol co) {M : MI} (hM : ok M) {a : Nat} (ha : row a) {f : S} (hf : CZ co M a f) {n : Nat} (hn : 18446744073709551616 ≤ n) : f_X5_degree n a M = some ((nu co f : Int) - 1) := c_degreeG P hM ha (fun i hi => by rw [hf.1 i hi]) hf.2 hn
theorem c_degreeP {R T : Type} [Lean.Grind.CommRing R] [Lean.Grind.CommRing T] {ct : T → Nat → R} (K : isPol ct) {p : Nat} {φ : Int → R} (hφ : isRed φ p) {M : MI} (hM : ok M) {a : Nat} (ha : row a) {f : T} (hf : CP ct φ p M a f) {n : Nat} (hn : 18446744073709551616 ≤ n) : f_X5_degree n a M = some ((nu ct f : Int) - 1) := c_degreeG K hM ha (fun i hi => by
  obtain ⟨h1, h2, h3⟩ := hf.1 i hi
  rw [← h3, hφ.2.2.1]
  constructor
  · intro q; rw [q]; exact ⟨0, by omega⟩
  · intro q
    apply Classical.byContradiction
    intro hne
    have := Int.le_of_dvd (by omega) q
    omega) hf.2 hn
theorem c_copy {M : MI} (hM : ok M) {a b : Nat} (ha : row a) (hb : row b) : ∃ M', f_X5_copy a b M = some M' ∧ ok M' ∧ chJ [b] M M' ∧ ∀ i, i < 11 → M'.1 b i = M.1 a i := by
  refine ⟨ocp M a b, if_pos ⟨ha.1, hb.1, by rw [ha.2]; omega, by rw [hb.2]; omega⟩, ⟨fun k i => ?_, hM.2⟩, ⟨rfl, fun k i hk => ?_⟩, fun i hi => ?_⟩
  · unfold ocp
    dsimp only
    by_cases z : k = b
    · rw [if_pos z]; split
      · exact hM.1 _ _
      · exact hM.1 _ _
    · rw [if_neg z]; exact hM.1 _ _
  · unfold ocp
    dsimp only
    rw [if_neg (fun z => hk (by simp [z]))]
  · unfold ocp
    dsimp only
    rw [if_pos rfl, if_pos hi]
theorem c_copyZ {S : Type} [Lean.Grind.CommRing S] {co : S → Nat → Int} {M : MI} (hM : ok M) {a b : Nat} (ha : row a) (hb : row b) {f : S} (hf : CZ co M a f) : ∃ M', f_X5_copy a b M = some M' ∧ ok M' ∧ chJ [b] M M' ∧ CZ co M' b f := by
  obtain ⟨M', h1, h2, h3, h4⟩ := c_copy hM ha hb
  exact ⟨M', h1, h2, h3, fun i hi => by rw [h4 i hi]; exact hf.1 i hi, hf.2⟩
theorem c_copyP {R T : Type} [Lean.Grind.CommRing R] [Lean.Grind.CommRing T] {ct : T → Nat → R} {φ : Int → R} {p : Nat} {M : MI} (hM : ok M) {a b : Nat} (ha : row a) (hb : row b) {f : T} (hf : CP ct φ p M a f) : ∃ M', f_X5_copy a b M = some M' ∧ ok M' ∧ chJ [b] M M' ∧ CP ct φ p M' b f := by
  obtain ⟨M', h1, h2, h3, h4⟩ := c_copy hM ha hb
  exact ⟨M', h1, h2, h3, fun i hi => by rw [h4 i hi]; exact hf.1 i hi, hf.2⟩
end MCls1
