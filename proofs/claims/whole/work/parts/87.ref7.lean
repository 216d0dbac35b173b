/-! rest: division by a row with head 1 -/
section MRef7
def sbM (M : MI) (a b k : Nat) (q m : Int) (j : Nat) : MI := (fun kk i => if kk = 41 ∧ 24 * a + k ≤ i ∧ i < 24 * a + k + j then (M.1 41 i - q * M.1 41 (24 * b + (i - (24 * a + k)))) % m else M.1 kk i, M.2)
theorem sbM_1 (M : MI) (a b k : Nat) (q m : Int) (j : Nat) : (sbM M a b k q m j).1 36 9 = M.1 36 9 := by unfold sbM; dsimp only; rw [if_neg (by omega)]
theorem sub_fix {m w y : Int} (hm : 0 < m) (w1 : 0 ≤ w) (w2 : w < m) (y1 : 0 ≤ y) (y2 : y < m) : (if 0 ≤ w - y then some (w - y) else some (w - y + m)) = some ((w - y) % m) := by
  by_cases h0 : 0 ≤ w - y
  · rw [if_pos h0, Int.emod_eq_of_lt h0 (by omega)]
  · rw [if_neg h0]
    have : (w - y) % m = (w - y + m) % m := by rw [Int.add_emod_right]
    rw [this, Int.emod_eq_of_lt (by omega) (by omega)]
theorem s_restI {M : MI} (hM : ok M) {a b k : Nat} (ha : a < 60) (hb : b < 60) (hab : a ≠ b) {m q : Int} (hm : M.1 36 9 = m) (hm1 : 2 ≤ m) (hm2 : m ≤ 1000000000000) (hq : 0 ≤ q) (hq2 : q < m) (hd0 : 0 ≤ dg M b) (hd : k + dg M b ≤ 23) (hwa : ∀ j : Nat, (j : Int) ≤ k + dg M b → 0 ≤ wv M a j ∧ wv M a j < m) (hwb : ∀ j : Nat, (j : Int) ≤ dg M b → 0 ≤ wv M b j ∧ wv M b j < m) {n : Nat} (hn : 18446744073709551616 ≤ n) : lpF (l_X8_rest_58 a b k q) n (M, 0) = some (sbM M a b k q m (dg M b + 1).toNat) := by
  have eD : dg M b = M.2 42 b := rfl
  have hr := hM.2 42 b
  by_cases hq0 : q = 0
  · -- nothing is taken
    have e0 : sbM M a b k q m (dg M b + 1).toNat = M := by
      unfold sbM
      refine Prod.ext (funext fun kk => funext fun i => ?_) rfl
      dsimp only
      by_cases h : kk = 41 ∧ 24 * a + k ≤ i ∧ i < 24 * a + k + (dg M b + 1).toNat
      · rw [if_pos h, hq0, Int.zero_mul, Int.sub_zero, h.1]
        obtain ⟨w1, w2⟩ := hwa (i - 24 * a) (by omega)
        have e : wv M a (i - 24 * a) = M.1 41 i := by show M.1 41 (24 * a + (i - 24 * a)) = _; rw [show 24 * a + (i - 24 * a) = i by omega]
        rw [e] at w1 w2
        exact Int.emod_eq_of_lt w1 w2
      · rw [if_neg h]
    rw [e0]
    obtain ⟨N, rfl⟩ : ∃ N, n = N + 1 := ⟨n - 1, by omega⟩
    have hstep : l_X8_rest_58 a b k q (M, 0) = some (.inl M) := by
      unfold l_X8_rest_58
      dsimp only
      rw [odI_n b rfl rfl (by rw [k42.2]; exact hb), bs, gI_s (by omega) hr, bs, if_neg (by omega), gJ_s (by omega) (by omega), bs, if_pos hq0]
    simp only [lpF, hstep]
  · obtain ⟨r, h1, rfl⟩ := lp_do (step := l_X8_rest_58 a b k q) (fun st => ∃ j : Nat, st = (sbM M a b k q m j, (j : Int)) ∧ j ≤ (dg M b + 1).toNat) (fun st => ((dg M b + 1) - st.2).toNat) (fun r => r = sbM M a b k q m (dg M b + 1).toNat) (fun st ⟨j, hst, hj⟩ => by
      subst hst
      unfold l_X8_rest_58
      dsimp only
      rw [odI_n b rfl rfl (by rw [k42.2]; exact hb), bs]
      have e : (sbM M a b k q m j).2 42 b = dg M b := rfl
      rw [e, gI_s (by omega) (by omega), bs]
      by_cases hlt : dg M b < j
      · rw [if_pos hlt]
        exact Or.inl ⟨_, rfl, by rw [show j = (dg M b + 1).toNat by omega]⟩
      · obtain ⟨w1, w2⟩ := hwa (k + j) (by omega)
        obtain ⟨g1, g2⟩ := hwb j (by omega)
        have ea : wv M a (k + j) = M.1 41 (24 * a + k + j) := by show M.1 41 (24 * a + (k + j)) = _; rw [show 24 * a + (k + j) = 24 * a + k + j by omega]
        have eb : wv M b j = M.1 41 (24 * b + j) := rfl
        have e3 : (sbM M a b k q m j).1 41 (24 * a + k + j) = wv M a (k + j) := by rw [ea]; unfold sbM; dsimp only; rw [if_neg (by omega)]
        have e4 : (sbM M a b k q m j).1 41 (24 * b + j) = wv M b j := by rw [eb]; unfold sbM; dsimp only; rw [if_neg (by omega)]
        rw [if_neg hlt, gJ_s (by omega) (by omega), bs, if_neg hq0, odJ_n (24 * a + k + j) rfl (by omega) (by rw [k41.2]; omega), bs, e3, odJ_n (24 * b + j) rfl (by omega) (by rw [k41.2]; omega), bs, e4, s_product ((sbM_1 M a b k q m j).trans hm) hm1 hm2 hq hq2 g1 g2, bs]
        have p1 := Int.emod_nonneg (q * wv M b j) (show m ≠ 0 by omega)
        have p2 := Int.emod_lt_of_pos (q * wv M b j) (show 0 < m by omega)
        rw [gJ_s (by omega) (by omega), bs, sbM_1, hm]
        have e5 : (if 0 ≤ wv M a (k + j) - q * wv M b j % m then some (wv M a (k + j) - q * wv M b j % m) else some (wv M a (k + j) - q * wv M b j % m + m)) = some ((wv M a (k + j) - q * wv M b j) % m) := by
          have hx := Int.mul_ediv_add_emod (q * wv M b j) m
          have e6 : (wv M a (k + j) - q * wv M b j) % m = (wv M a (k + j) - q * wv M b j % m) % m := by
            have : wv M a (k + j) - q * wv M b j = (wv M a (k + j) - q * wv M b j % m) + m * (-(q * wv M b j / m)) := by rw [Int.mul_neg]; omega
            rw [this, Int.add_mul_emod_self_left]
          rw [e6]
          exact sub_fix (by omega) w1 w2 p1 p2
        rw [e5, bs, osJ_n (24 * a + k + j) rfl (by omega) (by rw [k41.2]; omega), bs]
        refine Or.inr ⟨_, rfl, ⟨j + 1, Prod.ext (Prod.ext ?_ rfl) (by dsimp only; omega), by omega⟩, by dsimp only; omega⟩
        funext kk i
        show (oJ (sbM M a b k q m j) 41 (24 * a + k + j) ((wv M a (k + j) - q * wv M b j) % m)).1 kk i = (sbM M a b k q m (j + 1)).1 kk i
        rw [oJ_1, ea, eb]
        unfold sbM
        dsimp only
        by_cases hk : kk = 41
        · subst hk
          by_cases hi : i = 24 * a + k + j
          · subst hi
            rw [if_pos ⟨rfl, rfl⟩, if_pos (by omega), show 24 * a + k + j - (24 * a + k) = j by omega]
          · rw [if_neg (by omega)]
            by_cases hw : 24 * a + k ≤ i ∧ i < 24 * a + k + j
            · rw [if_pos (by omega), if_pos (by omega)]
            · rw [if_neg (by omega), if_neg (by omega)]
        · rw [if_neg (by omega), if_neg (by omega), if_neg (by omega)]) n (M, 0) ⟨0, by unfold sbM; refine Prod.ext (Prod.ext (funext fun k => funext fun i => ?_) rfl) rfl; dsimp only; rw [if_neg (by omega)], by omega⟩ (by dsimp only; omega)
    exact h1
end MRef7
