/-! multiply by the modulus -/
section MRefB
def zrM (M : MI) (s j : Nat) : MI := (fun k i => if k = 41 ∧ 24 * s ≤ i ∧ i < 24 * s + j then 0 else M.1 k i, M.2)
theorem s_mulZ {M : MI} {t : Int} (ht : t ≤ 23) (ht0 : -1 ≤ t) {n : Nat} (hn : 18446744073709551616 ≤ n) : lpF (l_X8_multiply_40 t) n (M, 0) = some (zrM M 8 (t + 1).toNat) := by
  obtain ⟨r, h1, rfl⟩ := lp_do (step := l_X8_multiply_40 t) (fun st => ∃ j : Nat, st = (zrM M 8 j, (j : Int)) ∧ j ≤ (t + 1).toNat) (fun st => ((t + 1) - st.2).toNat) (fun r => r = zrM M 8 (t + 1).toNat) (fun st ⟨j, hst, hj⟩ => by
    subst hst
    unfold l_X8_multiply_40
    dsimp only
    rw [gI_s (by omega) (by omega), bs]
    by_cases hlt : t < j
    · rw [if_pos hlt]
      exact Or.inl ⟨_, rfl, by rw [show j = (t + 1).toNat by omega]⟩
    · rw [if_neg hlt, osJ_n (24 * 8 + j) rfl (by omega) (by rw [k41.2]; omega), bs]
      refine Or.inr ⟨_, rfl, ⟨j + 1, Prod.ext (Prod.ext ?_ rfl) (by dsimp only; omega), by omega⟩, by dsimp only; omega⟩
      funext k i
      show (oJ (zrM M 8 j) 41 (24 * 8 + j) 0).1 k i = (zrM M 8 (j + 1)).1 k i
      rw [oJ_1]
      unfold zrM
      dsimp only
      by_cases hk : k = 41
      · subst hk
        by_cases hi : i = 24 * 8 + j
        · subst hi
          rw [if_pos ⟨rfl, rfl⟩, if_pos (by omega)]
        · rw [if_neg (by omega)]
          by_cases hw : 24 * 8 ≤ i ∧ i < 24 * 8 + j
          · rw [if_pos (by omega), if_pos (by omega)]
          · rw [if_neg (by omega), if_neg (by omega)]
      · rw [if_neg (by omega), if_neg (by omega), if_neg (by omega)]) n (M, 0) ⟨0, by unfold zrM; refine Prod.ext (Prod.ext (funext fun k => funext fun i => ?_) rfl) rfl; dsimp only; rw [if_neg (by omega)], by omega⟩ (by dsimp only; omega)
  exact h1
theorem s_mulO {T R : Type} [Lean.Grind.CommRing T] [Lean.Grind.CommRing R] {ct : T → Nat → R} (K : isPol ct) {p : Nat} (hp : isZp R p) {φ : Int → R} (hφ : isRed φ p) {M : MI} (hM : ok M) {a b : Nat} (ha : a < 60) (hb : b < 60) (ha8 : a ≠ 8) (hb8 : b ≠ 8) (hm : M.1 36 9 = p) (hm2 : p ≤ 1000000000000) {f g : T} (hf : RP ct φ p M a f) (hg : RP ct φ p M b g) (hN : nu ct f + nu ct g ≤ 25) (hg0 : nu ct g ≠ 0) (hf0 : nu ct f ≠ 0) (hQ : ∀ t : Nat, t + 1 < nu ct f + nu ct g → wv M 8 t = 0) {n : Nat} (hn : 18446744073709551616 ≤ n) : ∃ M', lpF (l_X8_multiply_68 n a b ((nu ct f : Int) + nu ct g - 2)) n (M, 0) = some M' ∧ ok M' ∧ chg [8] M M' ∧ M'.2 = M.2 ∧ ∀ t : Nat, t + 1 < nu ct f + nu ct g → 0 ≤ wv M' 8 t ∧ wv M' 8 t < p ∧ φ (wv M' 8 t) = ct (f * g) t := by
  have hp2 := hp.1.1
  have hda : M.2 42 a = (nu ct f : Int) - 1 := hf.1
  obtain ⟨M', h1, h2, h3, h4, h5⟩ := lp_do (step := l_X8_multiply_68 n a b ((nu ct f : Int) + nu ct g - 2)) (fun st => ok st.1 ∧ chg [8] M st.1 ∧ st.1.2 = M.2 ∧ ∃ i : Nat, st.2 = i ∧ i ≤ nu ct f ∧ ∀ t : Nat, t + 1 < nu ct f + nu ct g → 0 ≤ wv st.1 8 t ∧ wv st.1 8 t < p ∧ φ (wv st.1 8 t) = ct (pt K f i * g) t) (fun st => ((nu ct f : Int) - st.2).toNat) (fun M' => ok M' ∧ chg [8] M M' ∧ M'.2 = M.2 ∧ ∀ t : Nat, t + 1 < nu ct f + nu ct g → 0 ≤ wv M' 8 t ∧ wv M' 8 t < p ∧ φ (wv M' 8 t) = ct (f * g) t) (fun st hst => by
    obtain ⟨M1, y⟩ := st
    obtain ⟨h1, h2, h3, i, hy, hi, h4⟩ := hst
    dsimp only at h1 h2 h3 hy h4
    subst hy
    have hd1 : M1.2 42 a = (nu ct f : Int) - 1 := by rw [h3]; exact hda
    unfold l_X8_multiply_68
    dsimp only
    rw [odI_n a rfl rfl (by rw [k42.2]; exact ha), bs, hd1, gI_s (by omega) (by omega), bs]
    by_cases hlt : (nu ct f : Int) - 1 < i
    · rw [if_pos hlt]
      have hie : i = nu ct f := by omega
      rw [hie, pt_all] at h4
      exact Or.inl ⟨_, rfl, h1, h2, h3, h4⟩
    · have hm1 : M1.1 36 9 = p := (h2.1 36 9 (by omega)).trans hm
      obtain ⟨M2, k1, k2, k3, k4, k5⟩ := s_mulI K hp hφ h1 ha hb ha8 hb8 hm1 hm2 (RP_chg hf h2 (by simp; exact ha8) (by omega)) (RP_chg hg h2 (by simp; exact hb8) (by omega)) (i := i) (by omega) hN h4 hn
      rw [if_neg hlt, gI_s (by omega) (by omega), bs, if_neg (by omega), k1, bs]
      have hpt : pt K f (i + 1) = pt K f i + mo K (ct f i) i := rfl
      refine Or.inr ⟨_, rfl, ⟨k2, chg_mono (chg_trans h2 k3) (fun z hz => by simpa using hz), k4.trans h3, i + 1, by dsimp only; omega, by omega, fun t ht => ?_⟩, by dsimp only; omega⟩
      dsimp only
      obtain ⟨w1, w2, w3⟩ := k5 t ht
      exact ⟨w1, w2, by rw [w3, hpt, show (pt K f i + mo K (ct f i) i) * g = pt K f i * g + mo K (ct f i) i * g by grind]⟩) n (M, 0) ⟨hM, chg_refl _ _, rfl, 0, rfl, by omega, fun t ht => by
      have : pt K f 0 = 0 := rfl
      dsimp only
      rw [hQ t ht, this, show (0 : T) * g = 0 by grind, p_zero K]
      exact ⟨by omega, by omega, red_zero hφ⟩⟩ (by dsimp only; omega)
  exact ⟨M', h1, h2, h3, h4, h5⟩
end MRefB
