/-! multiply by the modulus: the sums -/
section MRefA
noncomputable def pt {R T : Type} [Lean.Grind.CommRing R] [Lean.Grind.CommRing T] {ct : T → Nat → R} (K : isPol ct) (f : T) (k : Nat) : T := sm (fun i => mo K (ct f i) i) k
theorem pt_all {R T : Type} [Lean.Grind.CommRing R] [Lean.Grind.CommRing T] {ct : T → Nat → R} (K : isPol ct) (f : T) : pt K f (nu ct f) = f := by
  refine p_ext K (fun i => ?_)
  unfold pt
  rw [sm_co K]
  by_cases h : i < nu ct f
  · rw [sm_one (k := i) h (fun j _ hne => by rw [mo_co K, if_neg (fun q => hne q.symm)]), mo_co K, if_pos rfl]
  · rw [sm_zero (fun j hj => by rw [mo_co K, if_neg (by omega)]), nu_hi K f (by omega)]
theorem add_fix {m w y : Int} (w1 : 0 ≤ w) (w2 : w < m) (y1 : 0 ≤ y) (y2 : y < m) : (if w + y < m then some (w + y) else some (w + y - m)) = some ((w + y) % m) := by
  by_cases h0 : w + y < m
  · rw [if_pos h0, Int.emod_eq_of_lt (by omega) h0]
  · rw [if_neg h0]
    have : (w + y) % m = (w + y - m) % m := by rw [Int.sub_emod_right]
    rw [this, Int.emod_eq_of_lt (by omega) (by omega)]
theorem s_mulI {T R : Type} [Lean.Grind.CommRing T] [Lean.Grind.CommRing R] {ct : T → Nat → R} (K : isPol ct) {p : Nat} (hp : isZp R p) {φ : Int → R} (hφ : isRed φ p) {M : MI} (hM : ok M) {a b i : Nat} (ha : a < 60) (hb : b < 60) (ha8 : a ≠ 8) (hb8 : b ≠ 8) (hm : M.1 36 9 = p) (hm2 : p ≤ 1000000000000) {f g Q : T} (hf : RP ct φ p M a f) (hg : RP ct φ p M b g) (hi : i < nu ct f) (hN : nu ct f + nu ct g ≤ 25) (hQ : ∀ t : Nat, t + 1 < nu ct f + nu ct g → 0 ≤ wv M 8 t ∧ wv M 8 t < p ∧ φ (wv M 8 t) = ct Q t) {n : Nat} (hn : 18446744073709551616 ≤ n) : ∃ M', lpF (l_X8_multiply_87 a b i) n (M, 0) = some M' ∧ ok M' ∧ chg [8] M M' ∧ M'.2 = M.2 ∧ ∀ t : Nat, t + 1 < nu ct f + nu ct g → 0 ≤ wv M' 8 t ∧ wv M' 8 t < p ∧ φ (wv M' 8 t) = ct (Q + mo K (ct f i) i * g) t := by
  have hp2 := hp.1.1
  have hdb : M.2 42 b = (nu ct g : Int) - 1 := hg.1
  obtain ⟨x1, x2, x3⟩ := hf.2 i hi
  obtain ⟨M', h1, h2, h3, h4, h5⟩ := lp_do (step := l_X8_multiply_87 a b i) (fun st => ok st.1 ∧ chg [8] M st.1 ∧ st.1.2 = M.2 ∧ ∃ j : Nat, st.2 = j ∧ j ≤ nu ct g ∧ ∀ t : Nat, t + 1 < nu ct f + nu ct g → 0 ≤ wv st.1 8 t ∧ wv st.1 8 t < p ∧ φ (wv st.1 8 t) = ct (Q + mo K (ct f i) i * pt K g j) t) (fun st => ((nu ct g : Int) - st.2).toNat) (fun M' => ok M' ∧ chg [8] M M' ∧ M'.2 = M.2 ∧ ∀ t : Nat, t + 1 < nu ct f + nu ct g → 0 ≤ wv M' 8 t ∧ wv M' 8 t < p ∧ φ (wv M' 8 t) = ct (Q + mo K (ct f i) i * g) t) (fun st hst => by
    obtain ⟨M1, y⟩ := st
    obtain ⟨h1, h2, h3, j, hy, hj, h4⟩ := hst
    dsimp only at h1 h2 h3 hy h4
    subst hy
    have hd1 : M1.2 42 b = (nu ct g : Int) - 1 := by rw [h3]; exact hdb
    unfold l_X8_multiply_87
    dsimp only
    rw [odI_n b rfl rfl (by rw [k42.2]; exact hb), bs, hd1, gI_s (by omega) (by omega), bs]
    by_cases hlt : (nu ct g : Int) - 1 < j
    · rw [if_pos hlt]
      have hje : j = nu ct g := by omega
      rw [hje, pt_all] at h4
      exact Or.inl ⟨_, rfl, h1, h2, h3, h4⟩
    · obtain ⟨y1, y2, y3⟩ := hg.2 j (by omega)
      obtain ⟨z1, z2, z3⟩ := h4 (i + j) (by omega)
      have hm1 : M1.1 36 9 = p := (h2.1 36 9 (by omega)).trans hm
      have ea : M1.1 41 (24 * a + i) = wv M a i := h2.2.2.1 a i (by simp; exact ha8) (by omega)
      have eb : M1.1 41 (24 * b + j) = wv M b j := h2.2.2.1 b j (by simp; exact hb8) (by omega)
      have e8 : M1.1 41 (24 * 8 + (i + j)) = wv M1 8 (i + j) := rfl
      have p1 := Int.emod_nonneg (wv M a i * wv M b j) (show (p : Int) ≠ 0 by omega)
      have p2 := Int.emod_lt_of_pos (wv M a i * wv M b j) (show (0 : Int) < p by omega)
      rw [if_neg hlt, odJ_n (24 * 8 + (i + j)) rfl (by omega) (by rw [k41.2]; omega), bs, e8, odJ_n (24 * a + i) rfl (by omega) (by rw [k41.2]; omega), bs, ea, odJ_n (24 * b + j) rfl (by omega) (by rw [k41.2]; omega), bs, eb, s_product hm1 (by omega) (by omega) x1 x2 y1 y2, bs, hm1, gJ_s (by omega) (by omega), bs, add_fix z1 z2 p1 p2, bs, osJ_n (24 * 8 + (i + j)) rfl (by omega) (by rw [k41.2]; omega), bs]
      have q1 := Int.emod_nonneg (wv M1 8 (i + j) + wv M a i * wv M b j % p) (show (p : Int) ≠ 0 by omega)
      have q2 := Int.emod_lt_of_pos (wv M1 8 (i + j) + wv M a i * wv M b j % p) (show (0 : Int) < p by omega)
      obtain ⟨v, hv⟩ : ∃ v, v = (wv M1 8 (i + j) + wv M a i * wv M b j % p) % (p : Int) := ⟨_, rfl⟩
      rw [← hv] at q1 q2 ⊢
      have hφv : φ v = ct (Q + mo K (ct f i) i * pt K g j) (i + j) + ct f i * ct g j := by rw [hv, red_md hφ, hφ.1, red_md hφ, hφ.2.1, z3, x3, y3]
      have hpt : pt K g (j + 1) = pt K g j + mo K (ct g j) j := rfl
      refine Or.inr ⟨_, rfl, ⟨ok_oJ h1 (by omega), ?_, h3, j + 1, by dsimp only; omega, by omega, fun t ht => ?_⟩, by dsimp only; omega⟩
      · refine chg_mono (chg_trans h2 (chg_win (s := 8) rfl (fun k i' h => ?_))) (fun z hz => by simpa using hz)
        rw [oJ_1, if_neg (by omega)]
      · have ew : wv (oJ M1 41 (24 * 8 + (i + j)) v) 8 t = if 8 = 8 ∧ t = i + j then v else wv M1 8 t := wv_oJ (by omega) v (by omega)
        have ec : ct (Q + mo K (ct f i) i * pt K g (j + 1)) t = ct (Q + mo K (ct f i) i * pt K g j) t + (if t = i + j then ct f i * ct g j else 0) := by
          rw [hpt, show Q + mo K (ct f i) i * (pt K g j + mo K (ct g j) j) = (Q + mo K (ct f i) i * pt K g j) + mo K (ct f i) i * mo K (ct g j) j by grind, p_add K, mo_mm, mo_co K]
        dsimp only
        rw [ew, ec]
        by_cases htj : t = i + j
        · rw [if_pos ⟨rfl, htj⟩, if_pos htj, hφv, htj]
          exact ⟨q1, by omega, rfl⟩
        · rw [if_neg (fun z => htj z.2), if_neg htj]
          obtain ⟨w1, w2, w3⟩ := h4 t ht
          exact ⟨w1, w2, by rw [w3]; grind⟩) n (M, 0) ⟨hM, chg_refl _ _, rfl, 0, rfl, by omega, fun t ht => by
      have : pt K g 0 = 0 := rfl
      dsimp only
      rw [this, show Q + mo K (ct f i) i * 0 = Q by grind]
      exact hQ t ht⟩ (by dsimp only; omega)
  exact ⟨M', h1, h2, h3, h4, h5⟩
end MRefA
