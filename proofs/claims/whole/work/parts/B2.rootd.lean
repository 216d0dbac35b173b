/-! the class's roots: division by a linear row, the list of roots -/
section MRootD
theorem lin1_mul {S : Type} [Lean.Grind.CommRing S] {co : S → Nat → Int} (P : isPol co) (u v : Int) (w : S) (i : Nat) : co (lin1 P u v * w) i = (if 1 ≤ i then v * co w (i - 1) else 0) - u * co w i := by
  have e : lin1 P u v * w = mo P v 1 * w - mo P u 0 * w := by unfold lin1; grind
  rw [e, p_sub P, mo_mul P, mo_mul P, if_pos (show 0 ≤ i by omega), Nat.sub_zero]
theorem c_dividedBy {S : Type} [Lean.Grind.CommRing S] {co : S → Nat → Int} (P : isPol co) {M : MI} (hM : ok M) {a : Nat} (ha : row a) {F : S} (hF0 : nu co F ≠ 0) (cF : CZ co M a F) (hXF : ∀ i, nz (co F i) ≤ 9999) {low : Nat} (hlow : ∀ i, i < low → co F i = 0) (hlow2 : co F low ≠ 0) {u v : Int} (hu : nz u ≤ 9999) (hu0 : u ≠ 0) (hv : 1 ≤ v ∧ v ≤ 9999) {n : Nat} (hn : 18446744073709551616 ≤ n) :
    (f_X4_dividedBy n a low u v M = some 1 ∧ dv (lin1 P u v) F) ∨ (f_X4_dividedBy n a low u v M = some 0 ∧ ¬ dv (lin1 P u v) F) := by
  have hNF := cF.2
  have hlN : low < nu co F := nu_gt P hlow2
  have hu' := nz_le.mp hu
  -- what the quotient must be
  have hW : ∀ W, F = lin1 P u v * W → (∀ i, nz (co W i) ≤ 979902) ∧ nu co W ≤ 11 := fun W h => by
    obtain ⟨b1, b2, -⟩ := z_bd P hF0 hNF hXF (g := W) ⟨lin1 P u v, by rw [h]; grind⟩
    exact ⟨b1, b2⟩
  have hWc : ∀ W, F = lin1 P u v * W → ∀ i, 1 ≤ i → co F i = v * co W (i - 1) - u * co W i := fun W h i hi => by
    have := (congrArg (fun z => co z i) h).trans (lin1_mul P u v W i)
    rw [if_pos hi] at this
    exact this
  have hWn : ∀ W, F = lin1 P u v * W → nu co F = nu co W + 1 := fun W h => by
    have hW0 : W ≠ 0 := fun z => hF0 ((nu_zero P).mpr (by rw [h, z]; grind))
    have hN := lin1_N P u (v := v) (by omega)
    have hl0 : lin1 P u v ≠ 0 := fun z => by rw [(nu_zero P).mpr z] at hN; omega
    have := nu_mul P int_D hl0 hW0
    rw [← h, hN] at this
    omega
  have hWl : ∀ W, F = lin1 P u v * W → ∀ i, i < low → co W i = 0 := fun W h i => by
    induction i with
    | zero =>
      intro hi
      have e : co F 0 = _ := (congrArg (fun z => co z 0) h).trans (lin1_mul P u v W 0)
      rw [if_neg (by omega), hlow 0 hi] at e
      have : u * co W 0 = 0 := by omega
      rcases Int.mul_eq_zero.mp this with q | q
      · exact absurd q hu0
      · exact q
    | succ i ih =>
      intro hi
      have e := hWc W h (i + 1) (by omega)
      rw [Nat.add_sub_cancel, ih (by omega), hlow (i + 1) hi] at e
      have : u * co W (i + 1) = 0 := by omega
      rcases Int.mul_eq_zero.mp this with q | q
      · exact absurd q hu0
      · exact q
  have hd := c_degree P hM ha cF hn
  obtain ⟨r, hL, hr⟩ := lp_do (step := l_X4_dividedBy_18 a low u v M) (fun st => ∃ (t : Nat) (w : Nat → Int), st = (w t, (t : Int)) ∧ low ≤ t ∧ t ≤ nu co F - 1 ∧ nz (w t) ≤ 1073741824 ∧ (∀ i, t < i → co F i = v * w (i - 1) - u * w i) ∧ (∀ i, nu co F - 1 ≤ i → w i = 0) ∧ ∀ W, F = lin1 P u v * W → ∀ i, t ≤ i → w i = co W i) (fun st => st.2.toNat) (fun r => (r = .inl 0 ∧ ¬ dv (lin1 P u v) F) ∨ ∃ w : Nat → Int, r = .inr (w low) ∧ nz (w low) ≤ 1073741824 ∧ (∀ i, low < i → co F i = v * w (i - 1) - u * w i) ∧ (∀ i, nu co F - 1 ≤ i → w i = 0) ∧ ∀ W, F = lin1 P u v * W → ∀ i, low ≤ i → w i = co W i) (fun st hst => by
    obtain ⟨t, w, hst, h1, h2, h3, h4, h5, h6⟩ := hst
    subst hst
    unfold l_X4_dividedBy_18
    dsimp only
    rw [gI_s (by omega) (by omega), bs]
    by_cases hle : (t : Int) ≤ low
    · rw [if_pos hle]
      have e : t = low := by omega
      subst e
      exact Or.inl ⟨_, rfl, Or.inr ⟨w, rfl, h3, h4, h5, h6⟩⟩
    · have hw := cF.1 t (by omega)
      have hx := nz_le.mp (hXF t)
      have hm : nz (u * w t) ≤ 9999 * 1073741824 := nz_mul_le hu h3
      have hm' := nz_le.mp hm
      obtain ⟨H, hH⟩ : ∃ H, H = co F t + u * w t := ⟨_, rfl⟩
      have eq : oqJ H v = some (H.tdiv v) := by
        unfold oqJ
        rw [if_pos ⟨by omega, by omega, by omega, by omega⟩]
      have hqb : (H.tdiv v).natAbs ≤ H.natAbs := by rw [Int.natAbs_tdiv]; exact Nat.div_le_self _ _
      have hqv : (H.tdiv v * v).natAbs ≤ H.natAbs := by
        rw [Int.natAbs_mul, Int.natAbs_tdiv]; exact Nat.div_mul_le_self _ _
      rw [if_neg hle, odJ_n t ha.1 rfl (by rw [ha.2]; omega), bs, hw, ← hH, eq, bs, gJ_s (by omega) (by omega), bs]
      have hmust : ∀ W, F = lin1 P u v * W → H = v * co W (t - 1) := fun W h => by
        have := hWc W h t (by omega)
        rw [hH, h6 W h t (Nat.le_refl _)]
        omega
      by_cases hex : H.tdiv v * v = H
      · rw [if_pos hex, j_abs (by omega), bs, gJ_s (by omega) (by omega), bs]
        have hmust2 : ∀ W, F = lin1 P u v * W → H.tdiv v = co W (t - 1) := fun W h => by
          have e1 := hmust W h
          have : H.tdiv v * v = co W (t - 1) * v := by rw [hex, e1, Int.mul_comm]
          exact Int.eq_of_mul_eq_mul_right (by omega) this
        by_cases hb : (((H.tdiv v).natAbs : Nat) : Int) ≤ 1073741824
        · rw [if_pos hb]
          refine Or.inr ⟨_, rfl, ⟨t - 1, fun i => if i = t - 1 then H.tdiv v else w i, ?_, by omega, by omega, by dsimp only; rw [if_pos rfl]; exact hb, fun i hi => ?_, fun i hi => ?_, fun W h i hi => ?_⟩, by dsimp only; omega⟩
          · dsimp only; rw [if_pos rfl]; exact Prod.ext rfl (by dsimp only; omega)
          · dsimp only
            rw [if_neg (show i ≠ t - 1 by omega)]
            by_cases z : i = t
            · rw [z, if_pos rfl, Int.mul_comm v, hex, hH]; omega
            · rw [if_neg (by omega)]; exact h4 i (by omega)
          · dsimp only; rw [if_neg (by omega)]; exact h5 i hi
          · dsimp only
            by_cases z : i = t - 1
            · rw [if_pos z, z]; exact hmust2 W h
            · rw [if_neg z]; exact h6 W h i (by omega)
        · rw [if_neg hb]
          refine Or.inl ⟨_, rfl, Or.inl ⟨rfl, ?_⟩⟩
          rintro ⟨W, h⟩
          have := (hW W h).1 (t - 1)
          rw [← hmust2 W h] at this
          unfold nz at this
          omega
      · rw [if_neg hex]
        refine Or.inl ⟨_, rfl, Or.inl ⟨rfl, ?_⟩⟩
        rintro ⟨W, h⟩
        refine hex ?_
        rw [hmust W h, Int.mul_tdiv_cancel_left _ (by omega), Int.mul_comm]) n (0, (nu co F : Int) - 1) ⟨nu co F - 1, fun _ => 0, Prod.ext rfl (by dsimp only; omega), by omega, by omega, by show nz 0 ≤ _; decide, fun i hi => by rw [nu_hi P F (by omega)]; show (0 : Int) = v * 0 - u * 0; omega, fun _ _ => rfl, fun W h i hi => by
      have := hWn W h
      exact (nu_hi P W (by omega)).symm⟩ (by dsimp only; omega)
  rcases hr with ⟨q, h⟩ | ⟨w, q, h1, h2, h3, h4⟩
  · rw [q] at hL
    refine Or.inr ⟨?_, h⟩
    unfold f_X4_dividedBy
    rw [gJ_s (by omega) (by omega), bs, if_neg (by omega), hd, bs, hL, bs]
  · rw [q] at hL
    have pre : f_X4_dividedBy n a low u v M = (Option.bind (odJ M a low) fun v9 =>
      Option.bind (
        Option.bind (gJ (v9 + (u * w low)) (0)) fun _ =>
        if (v9 + (u * w low)) = (0) then
          some (1)
        else
          some (0)) fun v10 =>
      Option.bind (obz v10) fun v11 =>
      some v11) := by
      unfold f_X4_dividedBy
      rw [gJ_s (by omega) (by omega), bs, if_neg (by omega), hd, bs, hL, bs]
    have hw := cF.1 low (by omega)
    have hx := nz_le.mp (hXF low)
    have hm : nz (u * w low) ≤ 9999 * 1073741824 := nz_mul_le hu h1
    have hm' := nz_le.mp hm
    rw [odJ_n low ha.1 rfl (by rw [ha.2]; omega), bs, hw, gJ_s (by omega) (by omega), bs] at pre
    by_cases h0 : co F low + u * w low = 0
    · rw [if_pos h0, bs] at pre
      refine Or.inl ⟨pre, ?_⟩
      obtain ⟨W, hW2⟩ := P.2.2.2.2.1 (fun i => if low ≤ i then w i else 0) (nu co F) (fun i hi => by
        rw [h3 i (by omega)]
        split <;> rfl)
      refine ⟨W, p_ext P (fun i => ?_)⟩
      rw [lin1_mul P, hW2, hW2]
      rcases Nat.lt_trichotomy i low with z | z | z
      · rw [if_neg (show ¬ low ≤ i by omega), if_neg (show ¬ low ≤ i - 1 by omega), hlow i z]
        split <;> omega
      · subst z
        rw [if_pos (Nat.le_refl _)]
        by_cases y : 1 ≤ i
        · rw [if_pos y, if_neg (by omega)]; omega
        · rw [if_neg y]; omega
      · rw [if_pos (show low ≤ i by omega), if_pos (show 1 ≤ i by omega), if_pos (show low ≤ i - 1 by omega)]
        exact h2 i z
    · rw [if_neg h0, bs] at pre
      refine Or.inr ⟨pre, ?_⟩
      rintro ⟨W, h⟩
      refine h0 ?_
      rw [h4 W h low (Nat.le_refl _)]
      have e : co F low = _ := (congrArg (fun z => co z low) h).trans (lin1_mul P u v W low)
      by_cases y : 1 ≤ low
      · rw [if_pos y, hWl W h (low - 1) (by omega)] at e; omega
      · rw [if_neg y] at e; omega
theorem k32 : kd 32 = 2 ∧ kn 32 = 10 := ⟨rfl, rfl⟩
theorem k33 : kd 33 = 2 ∧ kn 33 = 10 := ⟨rfl, rfl⟩
def kr4 (M M' : MI) : Prop := (∀ k i, k ≠ 32 → k ≠ 33 → k ≠ 34 → k ≠ 35 → M'.1 k i = M.1 k i) ∧ (∀ k i, ¬ (k = 6 ∧ i = 2) → M'.2 k i = M.2 k i)
theorem kr4_refl (M : MI) : kr4 M M := ⟨fun _ _ _ _ _ _ => rfl, fun _ _ _ => rfl⟩
theorem kr4_trans {M M' M'' : MI} (h : kr4 M M') (h1 : kr4 M' M'') : kr4 M M'' := ⟨fun k i a b c d => (h1.1 k i a b c d).trans (h.1 k i a b c d), fun k i a => (h1.2 k i a).trans (h.2 k i a)⟩
def RC (M : MI) (k : Nat) (s : Nat → Int × Int) : Prop := M.2 6 2 = k ∧ ∀ i, i < k → M.1 32 i = (s i).1 ∧ M.1 33 i = (s i).2
theorem c_addL {u v : Int} (hu : nz u ≤ 9999) (hv : 1 ≤ v ∧ v ≤ 9999) {k : Nat} (hk : k < 10) {s : Nat → Int × Int} (hb : ∀ i, i < k → nz (s i).1 ≤ 9999 ∧ 1 ≤ (s i).2 ∧ (s i).2 ≤ 9999) {M : MI} (hM : ok M) (hRR : RC M k s) {n : Nat} (hn : 18446744073709551616 ≤ n) :
    ∃ (M' : MI) (j : Nat), lpF (l_X4_add_16 u v) n (M, (k : Int)) = some (M', (j : Int)) ∧ ok M' ∧ M'.2 = M.2 ∧ (∀ a i, a ≠ 32 → a ≠ 33 → M'.1 a i = M.1 a i) ∧ j ≤ k ∧ (∀ i, i < j → M'.1 32 i = (s i).1 ∧ M'.1 33 i = (s i).2) ∧ (∀ i, j ≤ i → i < k → M'.1 32 (i + 1) = (s i).1 ∧ M'.1 33 (i + 1) = (s i).2) ∧ (j = 0 ∨ (s (j - 1)).1 * v ≤ u * (s (j - 1)).2) ∧ ∀ i, j ≤ i → i < k → ¬ (s i).1 * v ≤ u * (s i).2 := by
  obtain ⟨⟨M', ji⟩, hL, j, h1, h2, h3, h4, h5, h6, h7, h8, h9⟩ := lp_do (step := l_X4_add_16 u v) (fun st => ∃ j : Nat, st.2 = j ∧ ok st.1 ∧ st.1.2 = M.2 ∧ (∀ a i, a ≠ 32 → a ≠ 33 → st.1.1 a i = M.1 a i) ∧ j ≤ k ∧ (∀ i, i < j → st.1.1 32 i = (s i).1 ∧ st.1.1 33 i = (s i).2) ∧ (∀ i, j ≤ i → i < k → st.1.1 32 (i + 1) = (s i).1 ∧ st.1.1 33 (i + 1) = (s i).2) ∧ ∀ i, j ≤ i → i < k → ¬ (s i).1 * v ≤ u * (s i).2) (fun st => st.2.toNat) (fun r => ∃ j : Nat, r.2 = j ∧ ok r.1 ∧ r.1.2 = M.2 ∧ (∀ a i, a ≠ 32 → a ≠ 33 → r.1.1 a i = M.1 a i) ∧ j ≤ k ∧ (∀ i, i < j → r.1.1 32 i = (s i).1 ∧ r.1.1 33 i = (s i).2) ∧ (∀ i, j ≤ i → i < k → r.1.1 32 (i + 1) = (s i).1 ∧ r.1.1 33 (i + 1) = (s i).2) ∧ (j = 0 ∨ (s (j - 1)).1 * v ≤ u * (s (j - 1)).2) ∧ ∀ i, j ≤ i → i < k → ¬ (s i).1 * v ≤ u * (s i).2) (fun st hst => by
    obtain ⟨M1, y⟩ := st
    obtain ⟨j, hy, a1, a2, a3, a4, a5, a6, a7⟩ := hst
    dsimp only at hy a1 a2 a3 a5 a6
    subst hy
    unfold l_X4_add_16
    dsimp only
    rw [gI_s (by omega) (by omega), bs]
    by_cases h0 : (j : Int) ≤ 0
    · rw [if_pos h0]
      exact Or.inl ⟨_, rfl, j, rfl, a1, a2, a3, a4, a5, a6, Or.inl (by omega), a7⟩
    · obtain ⟨b1, b2, b3⟩ := hb (j - 1) (by omega)
      obtain ⟨c1, c2⟩ := a5 (j - 1) (by omega)
      have hu' := nz_le.mp hu
      have b1' := nz_le.mp b1
      have m1 : nz ((s (j - 1)).1 * v) ≤ 9999 * 9999 := nz_mul_le b1 (by rw [nz_le]; omega)
      have m2 : nz (u * (s (j - 1)).2) ≤ 9999 * 9999 := nz_mul_le hu (by rw [nz_le]; omega)
      rw [nz_le] at m1 m2
      rw [if_neg h0, odJ_n (j - 1) rfl (by omega) (by rw [k33.2]; omega), bs, c2, odJ_n (j - 1) rfl (by omega) (by rw [k32.2]; omega), bs, c1, gJ_s (by omega) (by omega), bs]
      by_cases hle : (s (j - 1)).1 * v ≤ u * (s (j - 1)).2
      · rw [if_pos hle]
        exact Or.inl ⟨_, rfl, j, rfl, a1, a2, a3, a4, a5, a6, Or.inr hle, a7⟩
      · have c2' : (oJ M1 32 j (s (j - 1)).1).1 33 (j - 1) = (s (j - 1)).2 := by rw [oJ_1, if_neg (by omega)]; exact c2
        rw [if_neg hle, bs, osJ_n j rfl rfl (by rw [k32.2]; omega), bs, odJ_n (j - 1) rfl (by omega) (by rw [k33.2]; omega), bs, c2', osJ_n j rfl rfl (by rw [k33.2]; omega), bs]
        refine Or.inr ⟨_, rfl, ⟨j - 1, by dsimp only; omega, ok_oJ (ok_oJ a1 (by omega)) (by omega), a2, fun a i x1 x2 => ?_, by omega, fun i hi => ⟨?_, ?_⟩, fun i hi1 hi2 => ⟨?_, ?_⟩, fun i hi1 hi2 => ?_⟩, by dsimp only; omega⟩
        · dsimp only; rw [oJ_1, if_neg (fun z => x2 z.1), oJ_1, if_neg (fun z => x1 z.1)]; exact a3 a i x1 x2
        · dsimp only; rw [oJ_1, if_neg (by omega), oJ_1, if_neg (by omega)]; exact (a5 i (by omega)).1
        · dsimp only; rw [oJ_1, if_neg (by omega), oJ_1, if_neg (by omega)]; exact (a5 i (by omega)).2
        · dsimp only
          rw [oJ_1, if_neg (by omega), oJ_1]
          by_cases z : i + 1 = j
          · rw [if_pos ⟨rfl, z⟩, show i = j - 1 by omega]
          · rw [if_neg (by omega)]; exact (a6 i (by omega) hi2).1
        · dsimp only
          rw [oJ_1]
          by_cases z : i + 1 = j
          · rw [if_pos ⟨rfl, z⟩, show i = j - 1 by omega]
          · rw [if_neg (by omega), oJ_1, if_neg (by omega)]; exact (a6 i (by omega) hi2).2
        · rcases Nat.lt_or_ge i j with z | z
          · rw [show i = j - 1 by omega]; exact hle
          · exact a7 i z hi2) n (M, (k : Int)) ⟨k, rfl, hM, rfl, fun _ _ _ _ => rfl, Nat.le_refl _, fun i hi => hRR.2 i hi, fun i h1 h2 => absurd h1 (by omega), fun i h1 h2 => absurd h1 (by omega)⟩ (by dsimp only; omega)
  dsimp only at h1
  subst h1
  exact ⟨M', j, hL, h2, h3, h4, h5, h6, h7, h8, h9⟩
def RIc {S : Type} [Lean.Grind.CommRing S] {co : S → Nat → Int} (P : isPol co) (F : S) (a : Nat) (M : MI) (k : Nat) (s : Nat → Int × Int) : Prop := ok M ∧ CZ co M a F ∧ RC M k s ∧ (∀ i, i < k → rt P F (s i) ∧ nz (s i).1 ≤ 9999 ∧ (s i).2 ≤ 9999) ∧ ∀ a b, a < b → b < k → rlt (s a) (s b)
theorem c_addR {S : Type} [Lean.Grind.CommRing S] {co : S → Nat → Int} (P : isPol co) {F : S} (hF0 : nu co F ≠ 0) (hNF : nu co F ≤ 11) {a : Nat} (haR : ¬ (32 ≤ a ∧ a < 36)) {u v : Int} (hu : nz u ≤ 9999) (hv : 1 ≤ v ∧ v ≤ 9999) (hrt0 : rt P F (u, v)) {M : MI} {k : Nat} {s : Nat → Int × Int} (h : RIc P F a M k s) (hnew : ∀ i, i < k → s i ≠ (u, v)) {n : Nat} (hn : 18446744073709551616 ≤ n) :
    ∃ M' k' s', f_X4_add n u v M = some M' ∧ kr4 M M' ∧ (∀ j i, (j = 34 ∨ j = 35) → M'.1 j i = M.1 j i) ∧ RIc P F a M' k' s' ∧ ∀ x, (∃ i, i < k' ∧ s' i = x) ↔ ((∃ i, i < k ∧ s i = x) ∨ x = (u, v)) := by
  obtain ⟨hM, cF, hRR, hrt, hso⟩ := h
  have hFne : F ≠ 0 := fun z => hF0 ((nu_zero P).mpr z)
  have hu' := nz_le.mp hu
  have hg : Nat.gcd u.natAbs v.natAbs = 1 := hrt0.2.1
  have hne : ∀ i j, i < j → j < k → s i ≠ s j := fun i j hij hj e => by have := hso i j hij hj; rw [e] at this; exact rlt_irr _ this
  have hk10 : k < 10 := by
    have := rt_cnt P hFne (k := k + 1) (s := fun i => if i = k then (u, v) else s i) (fun i hi => by
      by_cases z : i = k
      · rw [if_pos z]; exact hrt0
      · rw [if_neg z]; exact (hrt i (by omega)).1) (fun i j hij hj => by
      rw [if_neg (show i ≠ k by omega)]
      by_cases z : j = k
      · rw [if_pos z]; exact hnew i (by omega)
      · rw [if_neg z]; exact hne i j hij (by omega))
    omega
  obtain ⟨M5, j, e5, hok5, h51, h5o, hjk, h5lo, h5hi, hstop, hpass⟩ := c_addL hu hv hk10 (fun i hi => ⟨(hrt i hi).2.1, by have := (hrt i hi).1.1; omega, (hrt i hi).2.2⟩) hM hRR hn
  obtain ⟨M6, hM6⟩ : ∃ M6, M6 = oI (oJ (oJ M5 32 j u) 33 j v) 6 2 ((k : Int) + 1) := ⟨_, rfl⟩
  have h15 : (oJ (oJ M5 32 j u) 33 j v).2 6 2 = k := by rw [oJ_2, oJ_2, h51]; exact hRR.1
  have hvs : ∀ i, i < k → (s i).1 * v ≠ u * (s i).2 := fun i hi e => by
    obtain ⟨a, b⟩ := frac_eq (hrt i hi).1.1 (by omega) (hrt i hi).1.2.1 hg e
    exact hnew i hi (Prod.ext a b)
  have hlt1 : ∀ i, i < j → rlt (s i) (u, v) := fun i hi => by
    have h1 : rlt (s (j - 1)) (u, v) := by
      rcases hstop with z | z
      · omega
      · unfold rlt; dsimp only; have := hvs (j - 1) (by omega); omega
    rcases Nat.lt_or_ge i (j - 1) with z | z
    · exact rlt_trans (hrt i (by omega)).1.1 (hrt (j - 1) (by omega)).1.1 (by dsimp only; omega) (hso i (j - 1) z (by omega)) h1
    · rw [show i = j - 1 by omega]; exact h1
  have hlt2 : ∀ i, j ≤ i → i < k → rlt (u, v) (s i) := fun i h1 h2 => by unfold rlt; dsimp only; have := hpass i h1 h2; omega
  have M61 : ∀ a i, M6.1 a i = if a = 33 ∧ i = j then v else if a = 32 ∧ i = j then u else M5.1 a i := fun a i => by rw [hM6, oI_1, oJ_1, oJ_1]
  have M62 : ∀ a i, M6.2 a i = if a = 6 ∧ i = 2 then (k : Int) + 1 else M.2 a i := fun a i => by rw [hM6, oI_2, oJ_2, oJ_2, h51]
  refine ⟨M6, k + 1, ins s j (u, v), ?_, ?_, fun a i ha => ?_, ⟨?_, ?_, ⟨?_, fun i hi => ?_⟩, fun i hi => ?_, ins_so hjk hso hlt1 hlt2⟩, fun x => ins_mem hjk (u, v) x⟩
  · unfold f_X4_add
    rw [hRR.1, gI_s (by omega) (by omega), bs, if_pos (by omega), e5, bs]; dsimp only
    rw [osJ_n j rfl rfl (by rw [k32.2]; omega), bs, osJ_n j rfl rfl (by rw [k33.2]; omega), bs, h15]
    unfold opI
    rw [bs, ← hM6]
  · refine ⟨fun a i x1 x2 _ _ => ?_, fun a i d => ?_⟩
    · rw [M61, if_neg (fun z => x2 z.1), if_neg (fun z => x1 z.1)]
      exact h5o a i x1 x2
    · rw [M62, if_neg d]
  · rw [M61, if_neg (by omega), if_neg (by omega)]
    exact h5o a i (by omega) (by omega)
  · rw [hM6]; exact ok_oI (ok_oJ (ok_oJ hok5 (by omega)) (by omega)) (by omega)
  · refine ⟨fun i hi => ?_, cF.2⟩
    rw [M61, if_neg (by omega), if_neg (by omega), h5o a i (by omega) (by omega)]
    exact cF.1 i hi
  · rw [M62, if_pos ⟨rfl, rfl⟩]; omega
  · have m46 : M6.1 32 i = if i = j then u else M5.1 32 i := by
      rw [M61, if_neg (by omega)]
      by_cases z : i = j
      · rw [if_pos ⟨rfl, z⟩, if_pos z]
      · rw [if_neg (fun q => z q.2), if_neg z]
    have m47 : M6.1 33 i = if i = j then v else M5.1 33 i := by
      rw [M61]
      by_cases z : i = j
      · rw [if_pos ⟨rfl, z⟩, if_pos z]
      · rw [if_neg (fun q => z q.2), if_neg (by omega), if_neg z]
    rw [m46, m47]
    rcases Nat.lt_trichotomy i j with z | z | z
    · rw [if_neg (by omega), if_neg (by omega), ins_lo s _ z]; exact h5lo i z
    · rw [if_pos z, if_pos z, z, ins_at]; exact ⟨rfl, rfl⟩
    · rw [if_neg (by omega), if_neg (by omega), ins_hi s _ z]
      have := h5hi (i - 1) (by omega) (by omega)
      rw [show i - 1 + 1 = i by omega] at this
      exact this
  · rcases (ins_mem hjk (u, v) (ins s j (u, v) i)).mp ⟨i, hi, rfl⟩ with ⟨l, hl, e2⟩ | e2
    · rw [← e2]; exact hrt l hl
    · rw [e2]; exact ⟨hrt0, hu, hv.2⟩
theorem prim_lin {S : Type} [Lean.Grind.CommRing S] {co : S → Nat → Int} (P : isPol co) {F : S} (hpF : prim co F) {u v : Int} (hv : 1 ≤ v) (h : dv (lin1 P u v) F) : Nat.gcd u.natAbs v.natAbs = 1 := by
  apply Classical.byContradiction
  intro hg
  have hg0 : Nat.gcd u.natAbs v.natAbs ≠ 0 := fun z => by
    have := Nat.gcd_eq_zero_iff.mp z
    omega
  obtain ⟨q, hq, hqd⟩ := prm_ex (Nat.gcd u.natAbs v.natAbs) (by omega)
  obtain ⟨i, hi⟩ := hpF q hq
  obtain ⟨w, hw⟩ := h
  have d1 : (q : Int) ∣ u := Int.ofNat_dvd_left.mpr (Nat.dvd_trans hqd (Nat.gcd_dvd_left _ _))
  have d2 : (q : Int) ∣ v := Int.ofNat_dvd_left.mpr (Nat.dvd_trans hqd (Nat.gcd_dvd_right _ _))
  refine hi ?_
  rw [hw, lin1_mul P]
  refine Int.dvd_sub ?_ (Int.dvd_mul_of_dvd_left d1)
  split
  · exact Int.dvd_mul_of_dvd_left d2
  · exact Int.dvd_zero _
theorem c_addIfRoot {S : Type} [Lean.Grind.CommRing S] {co : S → Nat → Int} (P : isPol co) {F : S} (hF0 : nu co F ≠ 0) (hpF : prim co F) (hXF : ∀ i, nz (co F i) ≤ 9999) {a : Nat} (ha : row a) (haR : ¬ (32 ≤ a ∧ a < 36)) {low : Nat} (hlow : ∀ i, i < low → co F i = 0) (hlow2 : co F low ≠ 0) {u v : Int} (hu : nz u ≤ 9999) (hu0 : u ≠ 0) (hv : 1 ≤ v ∧ v ≤ 9999) {M : MI} {k : Nat} {s : Nat → Int × Int} (h : RIc P F a M k s) (hnew : ∀ i, i < k → s i ≠ (u, v)) {n : Nat} (hn : 18446744073709551616 ≤ n) :
    ∃ M' k' s', f_X4_addIfRoot n a low u v M = some M' ∧ kr4 M M' ∧ (∀ j i, (j = 34 ∨ j = 35) → M'.1 j i = M.1 j i) ∧ RIc P F a M' k' s' ∧ ∀ x, (∃ i, i < k' ∧ s' i = x) ↔ ((∃ i, i < k ∧ s i = x) ∨ (x = (u, v) ∧ rt P F x)) := by
  have h' := h
  obtain ⟨hM, cF, hRR, hrt, hso⟩ := h'
  rcases c_dividedBy P hM ha hF0 cF hXF hlow hlow2 hu hu0 hv hn with ⟨e, hd⟩ | ⟨e, hd⟩
  · have hrt0 : rt P F (u, v) := ⟨by dsimp only; omega, prim_lin P hpF hv.1 hd, hd⟩
    obtain ⟨M', k', s', e1, h1, h2, h3, h4⟩ := c_addR P hF0 cF.2 haR hu hv hrt0 h hnew hn
    refine ⟨M', k', s', ?_, h1, h2, h3, fun x => ?_⟩
    · unfold f_X4_addIfRoot
      rw [e, bs, gI_s (by omega) (by omega), bs, if_neg (by omega), e1, bs, bs]
    · rw [h4 x]
      constructor
      · rintro (z | z)
        · exact Or.inl z
        · exact Or.inr ⟨z, by rw [z]; exact hrt0⟩
      · rintro (z | z)
        · exact Or.inl z
        · exact Or.inr z.1
  · refine ⟨M, k, s, ?_, kr4_refl M, fun _ _ _ => rfl, h, fun x => ?_⟩
    · unfold f_X4_addIfRoot
      rw [e, bs, gI_s (by omega) (by omega), bs, if_pos rfl, bs]
    · refine ⟨fun z => Or.inl z, ?_⟩
      rintro (z | ⟨z1, z2⟩)
      · exact z
      · rw [z1] at z2
        exact absurd z2.2.2 hd
end MRootD
