/-! the letter is taken away -/
section MRefG
theorem s_lessLetter {T R : Type} [Lean.Grind.CommRing T] [Lean.Grind.CommRing R] {ct : T → Nat → R} (K : isPol ct) {p : Nat} (hp : isZp R p) {φ : Int → R} (hφ : isRed φ p) {M : MI} (hM : ok M) {s : Nat} (hs : s < 60) (hm : M.1 36 9 = p) (hm2 : p ≤ 1000000000000) {f : T} (hf : RP ct φ p M s f) (hN : nu ct f ≤ 24) {n : Nat} (hn : 18446744073709551616 ≤ n) : ∃ M', f_X8_lessLetter n s M = some M' ∧ ok M' ∧ chg [s] M M' ∧ RP ct φ p M' s (f - mo K 1 1) := by
  have hp2 := hp.1.1
  have hd : M.2 42 s = (nu ct f : Int) - 1 := hf.1
  -- zeros up to the letter's place
  obtain ⟨M6, hL, h1, h2, h3, h4⟩ := lp_do (step := l_X8_lessLetter_9 s) (fun st => ok st.1 ∧ chg [s] M st.1 ∧ st.1.2 = M.2 ∧ ∃ k : Nat, st.2 = k ∧ nu ct f ≤ k ∧ k ≤ 30 ∧ ∀ j : Nat, j < 24 → (j < k ∨ j < nu ct f) → 0 ≤ wv st.1 s j ∧ wv st.1 s j < p ∧ φ (wv st.1 s j) = ct f j) (fun st => (2 - st.2).toNat) (fun M6 => ok M6 ∧ chg [s] M M6 ∧ M6.2 = M.2 ∧ ∀ j : Nat, j < 24 → (j ≤ 1 ∨ j < nu ct f) → 0 ≤ wv M6 s j ∧ wv M6 s j < p ∧ φ (wv M6 s j) = ct f j) (fun st hst => by
    obtain ⟨M1, y⟩ := st
    obtain ⟨h1, h2, h3, k, hy, hk, hk30, h4⟩ := hst
    dsimp only at h1 h2 h3 hy h4
    subst hy
    unfold l_X8_lessLetter_9
    dsimp only
    by_cases hlt : (1 : Int) < k
    · rw [gI_s (by omega) (by omega), bs, if_pos hlt]
      exact Or.inl ⟨_, rfl, h1, h2, h3, fun j hj hj2 => h4 j hj (by omega)⟩
    · rw [gI_s (by omega) (by omega), bs, if_neg hlt, osJ_n (24 * s + k) rfl (by omega) (by rw [k41.2]; omega), bs]
      refine Or.inr ⟨_, rfl, ⟨ok_oJ h1 (by omega), chg_mono (chg_trans h2 (chg_win (s := s) rfl (fun k' i h => by rw [oJ_1, if_neg (by omega)]))) (fun x hx => by simpa using hx), h3, k + 1, by dsimp only; omega, by omega, by omega, fun j hj hj2 => ?_⟩, by dsimp only; omega⟩
      dsimp only
      rw [wv_oJ (by omega) _ hj]
      by_cases z : j = k
      · rw [if_pos ⟨rfl, z⟩, z, nu_hi K f hk]
        exact ⟨by omega, by omega, red_zero hφ⟩
      · rw [if_neg (fun w => z w.2)]
        exact h4 j hj (by omega)) n (M, (nu ct f : Int) - 1 + 1) ⟨hM, chg_refl _ _, rfl, nu ct f, by dsimp only; omega, by omega, by omega, fun j hj hj2 => hf.2 j (by omega)⟩ (by dsimp only; omega)
  obtain ⟨t, ht⟩ : ∃ t : Int, t = (if (nu ct f : Int) - 1 ≤ 1 then 1 else (nu ct f : Int) - 1) := ⟨_, rfl⟩
  have ht1 : -1 ≤ t ∧ t ≤ 23 ∧ 1 ≤ t ∧ (nu ct f : Int) - 1 ≤ t ∧ (∀ j : Nat, (j : Int) ≤ t → j ≤ 1 ∨ j < nu ct f) := by
    by_cases z : (nu ct f : Int) - 1 ≤ 1
    · rw [if_pos z] at ht; exact ⟨by omega, by omega, by omega, by omega, fun j hj => by omega⟩
    · rw [if_neg z] at ht; exact ⟨by omega, by omega, by omega, by omega, fun j hj => by omega⟩
  obtain ⟨x1, x2, x3⟩ := h4 1 (by omega) (by omega)
  have hm6 : M6.1 36 9 = p := (h2.1 36 9 (by omega)).trans hm
  have hd6 : M6.2 42 s = (nu ct f : Int) - 1 := by rw [h3]; exact hd
  have ex : M6.1 41 (24 * s + 1) = wv M6 s 1 := rfl
  obtain ⟨v, hv⟩ : ∃ v : Int, v = (if wv M6 s 1 = 0 then (p : Int) - 1 else wv M6 s 1 - 1) := ⟨_, rfl⟩
  have hv1 : 0 ≤ v ∧ v < p ∧ φ v = ct f 1 - 1 := by
    by_cases z : wv M6 s 1 = 0
    · rw [if_pos z] at hv
      refine ⟨by omega, by omega, ?_⟩
      rw [hv, red_sub hφ, hφ.2.2.2, ← x3, z, red_zero hφ, (hφ.2.2.1 (p : Int)).mpr ⟨1, by omega⟩]
    · rw [if_neg z] at hv
      refine ⟨by omega, by omega, ?_⟩
      rw [hv, red_sub hφ, hφ.2.2.2, x3]
  obtain ⟨M7, hM7⟩ : ∃ M7, M7 = oJ M6 41 (24 * s + 1) v := ⟨_, rfl⟩
  have hok7 : ok M7 := by rw [hM7]; exact ok_oJ h1 (by omega)
  obtain ⟨t1, t2, t3⟩ := s_trimP K hφ hok7 hs (t := t) ht1.2.1 ht1.1 (f := f - mo K 1 1) (fun j hj => by
    rw [hM7, wv_oJ (by omega) _ (by omega), p_sub K, mo_co K]
    by_cases z : j = 1
    · rw [if_pos ⟨rfl, z⟩, if_pos z, z]; exact hv1
    · rw [if_neg (fun w => z w.2), if_neg z]
      obtain ⟨w1, w2, w3⟩ := h4 j (by omega) (ht1.2.2.2.2 j hj)
      exact ⟨w1, w2, by rw [w3]; grind⟩) (fun j hj => by rw [p_sub K, mo_co K, if_neg (by omega), nu_hi K f (by omega)]; grind) hn
  refine ⟨_, ?_, t3, chg_mono (chg_trans (chg_trans h2 (chg_win (s := s) (M' := M7) (by rw [hM7]; rfl) (fun k i h => by rw [hM7, oJ_1, if_neg (by omega)]))) (chg_oI _)) (fun x hx => by simpa using hx), t2⟩
  unfold f_X8_lessLetter
  rw [odI_n s rfl rfl (by rw [k42.2]; exact hs), bs, hd, hL, bs, odI_n s rfl rfl (by rw [k42.2]; exact hs), bs, hd6, gI_s (by omega) (by omega), bs, bs]
  have e1 : (if (nu ct f : Int) - 1 ≤ 1 then some (1 : Int) else some ((nu ct f : Int) - 1)) = some t := by rw [ht]; split <;> rfl
  rw [e1, bs, odJ_n (24 * s + 1) rfl (by omega) (by rw [k41.2]; omega), bs, ex, gJ_s (by omega) (by omega), bs, bs, hm6]
  have e2 : (if wv M6 s 1 = 0 then some ((p : Int) - 1) else some (wv M6 s 1 - 1)) = some v := by rw [hv]; split <;> rfl
  rw [e2, bs, osJ_n (24 * s + 1) rfl (by omega) (by rw [k41.2]; omega), bs, ← hM7, t1, bs]
end MRefG
