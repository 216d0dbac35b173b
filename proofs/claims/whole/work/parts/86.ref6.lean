/-! monic -/
section MRef6
def mnM (M : MI) (s : Nat) (c m : Int) (j : Nat) : MI := (fun k i => if k = 41 ∧ 24 * s ≤ i ∧ i < 24 * s + j then (M.1 41 i * c) % m else M.1 k i, M.2)
theorem mnM_1 (M : MI) (s : Nat) (c m : Int) (j : Nat) : (mnM M s c m j).1 36 9 = M.1 36 9 := by unfold mnM; dsimp only; rw [if_neg (by omega)]
theorem s_monicL {M : MI} (hM : ok M) {s : Nat} (hs : s < 60) {m c : Int} (hm : M.1 36 9 = m) (hm1 : 2 ≤ m) (hm2 : m ≤ 1000000000000) (hc : 0 ≤ c) (hc2 : c < m) (hc3 : m = 2 → c = 1) (hd : dg M s ≤ 23) (hw : ∀ j : Nat, (j : Int) ≤ dg M s → 0 ≤ wv M s j ∧ wv M s j < m) {n : Nat} (hn : 18446744073709551616 ≤ n) : lpF (l_X8_monic_42 s c) n (M, 0) = some (mnM M s c m (dg M s + 1).toNat) := by
  have hr := hM.2 42 s
  have eD : dg M s = M.2 42 s := rfl
  obtain ⟨r, h1, rfl⟩ := lp_do (step := l_X8_monic_42 s c) (fun st => ∃ j : Nat, st = (mnM M s c m j, (j : Int)) ∧ j ≤ (dg M s + 1).toNat) (fun st => ((dg M s + 1) - st.2).toNat) (fun r => r = mnM M s c m (dg M s + 1).toNat) (fun st ⟨j, hst, hj⟩ => by
    subst hst
    unfold l_X8_monic_42
    dsimp only
    rw [odI_n s rfl rfl (by rw [k42.2]; exact hs), bs]
    have e : (mnM M s c m j).2 42 s = dg M s := rfl
    rw [e, gI_s (by omega) (by omega), bs]
    by_cases hlt : dg M s < j
    · rw [if_pos hlt]
      exact Or.inl ⟨_, rfl, by rw [show j = (dg M s + 1).toNat by omega]⟩
    · have ej : wv M s j = M.1 41 (24 * s + j) := rfl
      obtain ⟨w1, w2⟩ := hw j (by omega)
      have e3 : (mnM M s c m j).1 41 (24 * s + j) = wv M s j := by unfold mnM; dsimp only; rw [if_neg (by omega)]
      rw [if_neg hlt, mnM_1, hm, gJ_s (by omega) (by omega), bs, odJ_n (24 * s + j) rfl (by omega) (by rw [k41.2]; omega), e3]
      have e5 : (if m = 2 then (Option.bind (some (wv M s j)) fun v10 => some v10) else (Option.bind (some (wv M s j)) fun v8 => Option.bind (f_X8_product v8 c (mnM M s c m j)) fun v9 => some v9)) = some (wv M s j * c % m) := by
        by_cases h2 : m = 2
        · rw [if_pos h2, bs, hc3 h2, Int.mul_one, Int.emod_eq_of_lt w1 w2]
        · rw [if_neg h2, bs, s_product ((mnM_1 M s c m j).trans hm) hm1 hm2 w1 w2 hc hc2, bs]
      rw [e5, bs, osJ_n (24 * s + j) rfl (by omega) (by rw [k41.2]; omega), bs]
      refine Or.inr ⟨_, rfl, ⟨j + 1, Prod.ext (Prod.ext ?_ rfl) (by dsimp only; omega), by omega⟩, by dsimp only; omega⟩
      funext k i
      show (oJ (mnM M s c m j) 41 (24 * s + j) (wv M s j * c % m)).1 k i = (mnM M s c m (j + 1)).1 k i
      rw [oJ_1]
      unfold mnM
      dsimp only
      by_cases hk : k = 41
      · subst hk
        by_cases hi : i = 24 * s + j
        · subst hi
          rw [if_pos ⟨rfl, rfl⟩, if_pos (by omega)]
        · rw [if_neg (by omega)]
          by_cases hw : 24 * s ≤ i ∧ i < 24 * s + j
          · rw [if_pos (by omega), if_pos (by omega)]
          · rw [if_neg (by omega), if_neg (by omega)]
      · rw [if_neg (by omega), if_neg (by omega), if_neg (by omega)]) n (M, 0) ⟨0, by unfold mnM; refine Prod.ext (Prod.ext (funext fun k => funext fun i => ?_) rfl) rfl; dsimp only; rw [if_neg (by omega)], by omega⟩ (by dsimp only; omega)
  exact h1
theorem red_pw {R : Type} [Lean.Grind.CommRing R] {φ : Int → R} {p : Nat} (hφ : isRed φ p) (x : Int) : ∀ (e : Nat), φ (x ^ e) = (φ x) ^ e
  | 0 => by rw [Int.pow_zero, pw_zero]; exact hφ.2.2.2
  | e + 1 => by rw [Int.pow_succ, pw_succ, hφ.2.1, red_pw hφ x e]
theorem red_md {R : Type} [Lean.Grind.CommRing R] {φ : Int → R} {p : Nat} (hφ : isRed φ p) (x : Int) : φ (x % p) = φ x := by
  rw [red_eq hφ]
  have := Int.mul_ediv_add_emod x p
  exact ⟨-(x / p), by rw [Int.mul_neg]; omega⟩
theorem s_monic {T R : Type} [Lean.Grind.CommRing T] [Lean.Grind.CommRing R] {ct : T → Nat → R} (K : isPol ct) {p : Nat} (hp : isZp R p) {φ : Int → R} (hφ : isRed φ p) {M : MI} (hM : ok M) {s : Nat} (hs : s < 60) (hm : M.1 36 9 = p) (hm2 : p ≤ 1000000000000) {f : T} (hf : RP ct φ p M s f) (hN : nu ct f ≤ 24) (hf0 : f ≠ 0) {n : Nat} (hn : 18446744073709551616 ≤ n) : ∃ M' c, f_X8_monic n s M = some M' ∧ ok M' ∧ chg [s] M M' ∧ c ≠ 0 ∧ ct f (nu ct f - 1) * c = 1 ∧ RP ct φ p M' s (mo K c 0 * f) ∧ nu ct (mo K c 0 * f) = nu ct f := by
  have hp2 := hp.1.1
  have hF := hp.2.2.1
  have hn0 : nu ct f ≠ 0 := fun q => hf0 ((nu_zero K).mp q)
  have hd := hf.1
  have eD : dg M s = M.2 42 s := rfl
  obtain ⟨x, hx⟩ : ∃ x, x = wv M s (nu ct f - 1) := ⟨_, rfl⟩
  obtain ⟨x1, x2, x3⟩ := hf.2 (nu ct f - 1) (by omega)
  rw [← hx] at x1 x2 x3
  have hlc : ct f (nu ct f - 1) ≠ 0 := nu_top K f hn0
  have hpw := s_power (M := M) hm (by omega) (by omega) x1 x2 (e := p - 2) (by omega) hn
  obtain ⟨c, hc⟩ : ∃ c, c = x ^ (p - 2) % (p : Int) := ⟨_, rfl⟩
  rw [← hc] at hpw
  have c1 : 0 ≤ c := by rw [hc]; exact Int.emod_nonneg _ (by omega)
  have c2 : c < p := by rw [hc]; exact Int.emod_lt_of_pos _ (by omega)
  have hφc : φ c = (ct f (nu ct f - 1)) ^ (p - 2) := by rw [hc, red_md hφ, red_pw hφ, x3]
  have hinv : ct f (nu ct f - 1) * φ c = 1 := by rw [hφc]; exact fermat2 hp hlc
  have hc0 : φ c ≠ 0 := fun q => by rw [q] at hinv; exact hF.1 (by grind)
  have hNg : nu ct (mo K (φ c) 0 * f) = nu ct f := by
    have := nu_mul K (isF_D hF) (a := mo K (φ c) 0) (b := f) (fun z => by have := (nu_zero K).mpr z; rw [mo_N K 0 hc0] at this; omega) hf0
    rw [mo_N K 0 hc0] at this
    omega
  have hL := s_monicL hM hs hm (c := c) (by omega) (by omega) c1 c2 (fun h => by rw [hc, show p - 2 = 0 by omega, Int.pow_zero, h]; decide) (by omega) (fun j hj => ⟨(hf.2 j (by omega)).1, (hf.2 j (by omega)).2.1⟩) hn
  refine ⟨mnM M s c p (dg M s + 1).toNat, φ c, ?_, ?_, ?_, hc0, hinv, ⟨?_, fun j hj => ?_⟩, hNg⟩
  · unfold f_X8_monic
    rw [odI_n s rfl rfl (by rw [k42.2]; exact hs), bs, gI_s (hM.2 42 s) (by omega), bs, if_pos (by omega), bs, odJ_n (24 * s + (nu ct f - 1)) rfl (by omega) (by rw [k41.2]; omega), bs]
    have e1 : M.1 41 (24 * s + (nu ct f - 1)) = x := hx.symm
    have e2 : M.1 36 9 - 2 = ((p - 2 : Nat) : Int) := by omega
    rw [e1, e2, hpw, bs, hL, bs]
  · exact ⟨fun k i => by
      unfold mnM; dsimp only
      split
      · have := Int.emod_nonneg (M.1 41 i * c) (show (p : Int) ≠ 0 by omega)
        have := Int.emod_lt_of_pos (M.1 41 i * c) (show (0 : Int) < p by omega)
        omega
      · exact hM.1 k i, hM.2⟩
  · exact chg_win rfl (fun k i h => by unfold mnM; dsimp only; rw [if_neg (by omega)])
  · rw [hNg]; exact hd
  · rw [hNg] at hj
    obtain ⟨w1, w2, w3⟩ := hf.2 j hj
    have e : wv (mnM M s c p (dg M s + 1).toNat) s j = wv M s j * c % p := by
      show (mnM M s c p (dg M s + 1).toNat).1 41 (24 * s + j) = _
      unfold mnM; dsimp only
      rw [if_pos (by omega)]
    rw [e]
    refine ⟨Int.emod_nonneg _ (by omega), Int.emod_lt_of_pos _ (by omega), ?_⟩
    rw [red_md hφ, hφ.2.1, w3, mo_0 K]; grind
end MRef6
