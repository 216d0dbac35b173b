/-! powers by the modulus; rows by the modulus -/
section MRef4
theorem oand1 {z : Int} (h0 : 0 ≤ z) (h1 : z < 9223372036854775808) : oandJ z 1 = z % 2 := oand_mask h0 h1 1 (by omega)
theorem s_power {M : MI} {m x : Int} (hm : M.1 36 9 = m) (hm1 : 2 ≤ m) (hm2 : m ≤ 1000000000000) (hx : 0 ≤ x) (hx2 : x < m) {e : Nat} (he : e < 4611686018427387904) {n : Nat} (hn : 18446744073709551616 ≤ n) : f_X8_power n x e M = some (x ^ e % m) := by
  obtain ⟨r, h1, rfl⟩ := lp_do (step := l_X8_power_14 M) (fun st => ∃ (k : Nat), st.2.2 = k ∧ k < 4611686018427387904 ∧ 0 ≤ st.1 ∧ st.1 < m ∧ 0 ≤ st.2.1 ∧ st.2.1 < m ∧ st.1 * st.2.1 ^ k % m = x ^ e % m) (fun st => st.2.2.toNat) (fun r => r = x ^ e % m) (fun st hst => by
    obtain ⟨r, y, z⟩ := st
    obtain ⟨k, hz, hk, hr1, hr2, hy1, hy2, hinv⟩ := hst
    dsimp only at hz hr1 hr2 hy1 hy2 hinv
    subst hz
    unfold l_X8_power_14
    dsimp only
    rw [gJ_s (by omega) (by omega), bs]
    by_cases h0 : (k : Int) ≤ 0
    · rw [if_pos h0]
      refine Or.inl ⟨_, rfl, ?_⟩
      rw [← hinv, show k = 0 by omega, Int.pow_zero, Int.mul_one, Int.emod_eq_of_lt hr1 hr2]
    · rw [if_neg h0, oand1 (by omega) (by omega), oshr1 (by omega)]
      have p1 := Int.emod_nonneg (r * y) (show m ≠ 0 by omega)
      have p2 := Int.emod_lt_of_pos (r * y) (show 0 < m by omega)
      have q1 := Int.emod_nonneg (y * y) (show m ≠ 0 by omega)
      have q2 := Int.emod_lt_of_pos (y * y) (show 0 < m by omega)
      have hyy : ∀ j : Nat, ∃ c, (y * y % m) ^ j = (y * y) ^ j + m * c := by
        intro j
        induction j with
        | zero => exact ⟨0, by rw [Int.pow_zero, Int.pow_zero]; omega⟩
        | succ j ih =>
          obtain ⟨c, hc⟩ := ih
          have hd := Int.mul_ediv_add_emod (y * y) m
          exact ⟨c * (y * y % m) - (y * y) ^ j * (y * y / m), by
            rw [Int.pow_succ, hc, Int.pow_succ]
            generalize y * y / m = Q at *
            have : y * y % m = y * y - m * Q := by omega
            rw [this]; grind⟩
      have hpow : ∀ j : Nat, (y * y) ^ j = y ^ (2 * j) := by
        intro j
        induction j with
        | zero => rw [Nat.mul_zero, Int.pow_zero, Int.pow_zero]
        | succ j ih => rw [Int.pow_succ, ih, show 2 * (j + 1) = 2 * j + 1 + 1 by omega, Int.pow_succ, Int.pow_succ]; grind
      have hz2 : ((k : Int) / 2) = ((k / 2 : Nat) : Int) := by omega
      rw [s_product hm hm1 hm2 hy1 hy2 hy1 hy2]
      by_cases ho : (k : Int) % 2 = 1
      · rw [gJ_s (by omega) (by omega), bs, if_pos ho, s_product hm hm1 hm2 hr1 hr2 hy1 hy2, bs, bs, bs]
        refine Or.inr ⟨_, rfl, ⟨k / 2, hz2, by omega, p1, p2, q1, q2, ?_⟩, by dsimp only; omega⟩
        dsimp only
        obtain ⟨c, hc⟩ := hyy (k / 2)
        rw [hc, hpow, ← hinv]
        have hk2 : k = 2 * (k / 2) + 1 := by omega
        have hd := Int.mul_ediv_add_emod (r * y) m
        generalize hQ : r * y / m = Q at *
        have e1 : r * y % m = r * y - m * Q := by omega
        have e2 : r * y ^ k = r * y ^ (2 * (k / 2)) * y := by
          conv => lhs; rw [hk2, Int.pow_succ]
          grind
        generalize y ^ (2 * (k / 2)) = Z at *
        have e3 : (r * y % m) * (Z + m * c) = r * y ^ k + m * (c * (r * y % m) - Q * Z) := by rw [e2, e1]; grind
        rw [e3, Int.add_mul_emod_self_left]
      · rw [gJ_s (by omega) (by omega), bs, if_neg ho, bs, bs]
        refine Or.inr ⟨_, rfl, ⟨k / 2, hz2, by omega, hr1, hr2, q1, q2, ?_⟩, by dsimp only; omega⟩
        dsimp only
        obtain ⟨c, hc⟩ := hyy (k / 2)
        rw [hc, hpow, ← hinv]
        have hk2 : k = 2 * (k / 2) := by omega
        have e2 : y ^ k = y ^ (2 * (k / 2)) := by conv => lhs; rw [hk2]
        rw [← e2]
        have e3 : r * (y ^ k + m * c) = r * y ^ k + m * (r * c) := by grind
        rw [e3, Int.add_mul_emod_self_left]) n (1, x, (e : Int)) ⟨e, rfl, he, by omega, by omega, hx, hx2, by dsimp only; rw [Int.one_mul]⟩ (by dsimp only; omega)
  unfold f_X8_power
  have e1 : orJ 1 m = some 1 := by
    unfold orJ
    rw [if_pos ⟨by omega, by omega, by omega, by omega⟩, tmod_nn (by omega), Int.emod_eq_of_lt (by omega) (by omega)]
  rw [hm, e1, bs, h1, bs]
def rdM (M : MI) (s : Nat) (m : Int) (j : Nat) : MI := (fun k i => if k = 41 ∧ 24 * s ≤ i ∧ i < 24 * s + j then (M.1 41 i) % m else M.1 k i, M.2)
theorem rdM_1 (M : MI) (s : Nat) (m : Int) (j : Nat) : (rdM M s m j).1 36 9 = M.1 36 9 := by unfold rdM; dsimp only; rw [if_neg (by omega)]
theorem tmod_fix {x m : Int} (hm : 0 < m) : (if 0 ≤ x.tmod m then x.tmod m else x.tmod m + m) = x % m := by
  have h1 := Int.emod_nonneg x (show m ≠ 0 by omega)
  have h2 := Int.emod_lt_of_pos x hm
  have h3 := Int.mul_ediv_add_emod x m
  have h4 := Int.mul_tdiv_add_tmod x m
  have h5 : x.tmod m < m := Int.tmod_lt_of_pos x hm
  have h6 : -m < x.tmod m := by
    have := Int.tmod_lt_of_pos (-x) hm
    rw [Int.neg_tmod] at this
    omega
  have h7 : ∃ q, x.tmod m - x % m = m * q := ⟨x / m - x.tdiv m, by rw [Int.mul_sub]; omega⟩
  obtain ⟨q, hq⟩ := h7
  have hq1 : q ≤ 0 := by
    apply Classical.byContradiction
    intro z
    have : m * 1 ≤ m * q := Int.mul_le_mul_of_nonneg_left (by omega) (by omega)
    omega
  have hq2 : -1 ≤ q := by
    apply Classical.byContradiction
    intro z
    have : m * q ≤ m * (-2) := Int.mul_le_mul_of_nonneg_left (by omega) (by omega)
    omega
  have : q = 0 ∨ q = -1 := by omega
  rcases this with z | z
  · rw [z] at hq
    rw [if_pos (by omega)]; omega
  · rw [z] at hq
    split
    · omega
    · omega
theorem s_reduceL {M : MI} (hM : ok M) {s : Nat} (hs : s < 60) {m : Int} (hm : M.1 36 9 = m) (hm1 : 2 ≤ m) (hm2 : m ≤ 1000000000000) (hd : dg M s ≤ 23) (hw : ∀ j : Nat, (j : Int) ≤ dg M s → -9223372036854775807 ≤ wv M s j) {n : Nat} (hn : 18446744073709551616 ≤ n) : lpF (l_X8_reduce_9 s (dg M s)) n (M, 0) = some (rdM M s m (dg M s + 1).toNat) := by
  have hr := hM.2 42 s
  have eD : dg M s = M.2 42 s := rfl
  obtain ⟨r, h1, rfl⟩ := lp_do (step := l_X8_reduce_9 s (dg M s)) (fun st => ∃ j : Nat, st = (rdM M s m j, (j : Int)) ∧ j ≤ (dg M s + 1).toNat) (fun st => ((dg M s + 1) - st.2).toNat) (fun r => r = rdM M s m (dg M s + 1).toNat) (fun st ⟨j, hst, hj⟩ => by
    subst hst
    unfold l_X8_reduce_9
    dsimp only
    rw [gI_s (by omega) (by omega), bs]
    by_cases hlt : dg M s < j
    · rw [if_pos hlt]
      exact Or.inl ⟨_, rfl, by rw [show j = (dg M s + 1).toNat by omega]⟩
    · have ej : wv M s j = M.1 41 (24 * s + j) := rfl
      have h24 := hw j (by omega)
      have h25 := (hM.1 41 (24 * s + j)).2
      have e3 : (rdM M s m j).1 41 (24 * s + j) = wv M s j := by unfold rdM; dsimp only; rw [if_neg (by omega)]
      have e4 : orJ (wv M s j) m = some ((wv M s j).tmod m) := by
        unfold orJ
        rw [if_pos ⟨by omega, by omega, by omega, by omega⟩]
      have b1 : (wv M s j).tmod m < m := Int.tmod_lt_of_pos _ (by omega)
      have b2 : -m < (wv M s j).tmod m := by
        have := Int.tmod_lt_of_pos (-(wv M s j)) (show 0 < m by omega)
        rw [Int.neg_tmod] at this
        omega
      rw [if_neg hlt, odJ_n (24 * s + j) rfl (by omega) (by rw [k41.2]; omega), bs, e3, rdM_1, hm, e4, bs, gJ_s (by omega) (by omega), bs]
      have e5 : (if 0 ≤ (wv M s j).tmod m then some ((wv M s j).tmod m) else some ((wv M s j).tmod m + m)) = some (wv M s j % m) := by
        rw [← tmod_fix (show 0 < m by omega)]
        split <;> rfl
      rw [e5, bs, osJ_n (24 * s + j) rfl (by omega) (by rw [k41.2]; omega), bs]
      refine Or.inr ⟨_, rfl, ⟨j + 1, Prod.ext (Prod.ext ?_ rfl) (by dsimp only; omega), by omega⟩, by dsimp only; omega⟩
      funext k i
      show (oJ (rdM M s m j) 41 (24 * s + j) (wv M s j % m)).1 k i = (rdM M s m (j + 1)).1 k i
      rw [oJ_1]
      unfold rdM
      dsimp only
      by_cases hk : k = 41
      · subst hk
        by_cases hi : i = 24 * s + j
        · subst hi
          rw [if_pos ⟨rfl, rfl⟩, if_pos (by omega)]
        · rw [if_neg (by omega)]
          by_cases hw : 24 * s ≤ i ∧ i < 24 * s + j
          · rw [if_pos (by omega), if_pos (by omega)]
          · rw [if_neg (by omega), if_neg (by omega)]
      · rw [if_neg (by omega), if_neg (by omega), if_neg (by omega)]) n (M, 0) ⟨0, by unfold rdM; refine Prod.ext (Prod.ext (funext fun k => funext fun i => ?_) rfl) rfl; dsimp only; rw [if_neg (by omega)], by omega⟩ (by dsimp only; omega)
  exact h1
end MRef4
