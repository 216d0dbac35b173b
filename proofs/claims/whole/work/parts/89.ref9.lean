/-! copy as rows; Euclid by the modulus -/
section MRef9
theorem s_copyR {M : MI} (hM : ok M) {a b : Nat} (ha : a < 60) (hb : b < 60) (hd : dg M a ≤ 23) {n : Nat} (hn : 18446744073709551616 ≤ n) : ∃ M', f_X8_copy n a b M = some M' ∧ ok M' ∧ chg [b] M M' ∧ dg M' b = dg M a ∧ ∀ j : Nat, (j : Int) ≤ dg M a → wv M' b j = wv M a j := by
  have eD : dg M a = M.2 42 a := rfl
  have hr := hM.2 42 a
  have hokc : ok (cpM M a b (dg M a + 1).toNat) := ⟨fun k i => by
    unfold cpM; dsimp only
    split
    · exact hM.1 41 _
    · exact hM.1 k i, hM.2⟩
  refine ⟨_, s_copy hM ha hb hd (n := n) (by omega), ok_oI hokc hr, ?_, ?_, fun j hj => ?_⟩
  · have h1 : chg [b] M (cpM M a b (dg M a + 1).toNat) := chg_win rfl (fun k i h => by unfold cpM; dsimp only; rw [if_neg (by omega)])
    exact chg_mono (chg_trans h1 (chg_oI _)) (fun x hx => by simpa using hx)
  · show (oI (cpM M a b (dg M a + 1).toNat) 42 b (dg M a)).2 42 b = _
    rw [oI_2, if_pos ⟨rfl, rfl⟩]
  · show (cpM M a b (dg M a + 1).toNat).1 41 (24 * b + j) = _
    unfold cpM
    dsimp only
    rw [if_pos (by omega), show 24 * b + j - 24 * b = j by omega]
theorem s_copyP {T R : Type} [Lean.Grind.CommRing T] [Lean.Grind.CommRing R] {ct : T → Nat → R} {p : Nat} {φ : Int → R} {M : MI} (hM : ok M) {a b : Nat} (ha : a < 60) (hb : b < 60) {f : T} (hf : RP ct φ p M a f) (hN : nu ct f ≤ 24) {n : Nat} (hn : 18446744073709551616 ≤ n) : ∃ M', f_X8_copy n a b M = some M' ∧ ok M' ∧ chg [b] M M' ∧ RP ct φ p M' b f := by
  have h0 := hf.1
  obtain ⟨M', h1, h2, h3, h4, h5⟩ := s_copyR hM ha hb (by omega) hn
  exact ⟨M', h1, h2, h3, h4.trans h0, fun j hj => by rw [h5 j (by omega)]; exact hf.2 j hj⟩
theorem s_copyZ {S : Type} [Lean.Grind.CommRing S] {co : S → Nat → Int} {M : MI} (hM : ok M) {a b : Nat} (ha : a < 60) (hb : b < 60) {f : S} (hf : RZ co M a f) (hN : nu co f ≤ 24) {n : Nat} (hn : 18446744073709551616 ≤ n) : ∃ M', f_X8_copy n a b M = some M' ∧ ok M' ∧ chg [b] M M' ∧ RZ co M' b f := by
  have h0 := hf.1
  obtain ⟨M', h1, h2, h3, h4, h5⟩ := s_copyR hM ha hb (by omega) hn
  exact ⟨M', h1, h2, h3, h4.trans h0, fun j hj => by rw [h5 j (by omega)]; exact hf.2 j hj⟩
theorem s_commonRow {T R : Type} [Lean.Grind.CommRing T] [Lean.Grind.CommRing R] {ct : T → Nat → R} (K : isPol ct) {p : Nat} (hp : isZp R p) {φ : Int → R} (hφ : isRed φ p) {M : MI} (hM : ok M) {a b c : Nat} (ha : a < 60) (hb : b < 60) (hc : c < 60) (hab : a ≠ b) (ha3 : a ≠ 3) (hb3 : b ≠ 3) (hm : M.1 36 9 = p) (hm2 : p ≤ 1000000000000) {f g : T} (hf : RP ct φ p M a f) (hg : RP ct φ p M b g) (hNf : nu ct f ≤ 24) (hNg : nu ct g ≤ 24) {n : Nat} (hn : 18446744073709551616 ≤ n) : ∃ M' h u v, f_X8_commonRow n a b c M = some M' ∧ ok M' ∧ chg [a, b, 3, c] M M' ∧ RP ct φ p M' c h ∧ h = u * f + v * g ∧ dv h f ∧ dv h g ∧ (h ≠ 0 → ct h (nu ct h - 1) = 1) := by
  have hp2 := hp.1.1
  have hF := hp.2.2.1
  obtain ⟨⟨M8, x8⟩, hL, X, hX8, hXm, hok, hch, F, hRF, hNF, u, v, hFu, hfF, hgF⟩ := lp_do (step := l_X8_commonRow_6 n) (fun st => ∃ X Y : Nat, st.2.1 = X ∧ st.2.2 = Y ∧ ((X = a ∧ Y = b) ∨ (X = b ∧ Y = a)) ∧ ok st.1 ∧ chg [a, b, 3] M st.1 ∧ ∃ F G : T, RP ct φ p st.1 X F ∧ RP ct φ p st.1 Y G ∧ nu ct F ≤ 24 ∧ nu ct G ≤ 24 ∧ (∃ u v, F = u * f + v * g) ∧ (∃ u v, G = u * f + v * g) ∧ (∃ u v, f = u * F + v * G) ∧ (∃ u v, g = u * F + v * G)) (fun st => (st.1.2 42 st.2.2.toNat + 1).toNat) (fun r => ∃ X : Nat, r.2 = X ∧ (X = a ∨ X = b) ∧ ok r.1 ∧ chg [a, b, 3] M r.1 ∧ ∃ F : T, RP ct φ p r.1 X F ∧ nu ct F ≤ 24 ∧ ∃ u v, F = u * f + v * g ∧ dv F f ∧ dv F g) (fun st hst => by
    obtain ⟨M1, x, y⟩ := st
    obtain ⟨X, Y, hx, hy, hXY, h1, h2, F, G, hRF, hRG, hNF, hNG, ⟨u1, v1, e1⟩, ⟨u2, v2, e2⟩, ⟨u3, v3, e3⟩, ⟨u4, v4, e4⟩⟩ := hst
    dsimp only at hx hy h1 h2 hRF hRG
    subst hx hy
    have hX : X < 60 := by omega
    have hY : Y < 60 := by omega
    have hXYne : X ≠ Y := by omega
    have hX3 : X ≠ 3 := by omega
    have hY3 : Y ≠ 3 := by omega
    have hdY : M1.2 42 Y = (nu ct G : Int) - 1 := hRG.1
    unfold l_X8_commonRow_6
    dsimp only
    rw [odI_n Y rfl rfl (by rw [k42.2]; exact hY), bs, hdY, gI_s (by omega) (by omega), bs]
    by_cases h0 : (nu ct G : Int) - 1 < 0
    · rw [if_pos h0]
      have hG0 : G = 0 := (nu_zero K).mp (by omega)
      refine Or.inl ⟨_, rfl, X, rfl, by omega, h1, h2, F, hRF, hNF, u1, v1, e1, ⟨u3, by rw [hG0] at e3; grind⟩, ⟨u4, by rw [hG0] at e4; grind⟩⟩
    · rw [if_neg h0]
      have hG0 : G ≠ 0 := fun z => by rw [(nu_zero K).mpr z] at h0; omega
      have hm1 : M1.1 36 9 = p := (h2.1 36 9 (by omega)).trans hm
      obtain ⟨M2, d, m1, m2, m3, m4, m5, m6, m7⟩ := s_monic K hp hφ h1 hY hm1 hm2 hRG hNG hG0 hn
      have hm2' : M2.1 36 9 = p := (m3.1 36 9 (by omega)).trans hm1
      have hRF2 : RP ct φ p M2 X F := RP_chg hRF m3 (by simp; exact hXYne) hNF
      have hlc1 : ct (mo K d 0 * G) (nu ct (mo K d 0 * G) - 1) = 1 := by rw [m7, mo_0 K]; grind
      obtain ⟨M3, q, r, r1, r2, r3, r4, r5, r6, _⟩ := s_rest K hp hφ m2 hX hY hXYne hX3 hY3 hm2' hm2 hRF2 m6 hNF (by omega) (by rw [m7]; omega) hlc1 hn
      rw [m1, bs, r1, bs]
      have hYn : Y ∉ [X, 3] := by simp; exact ⟨fun z => hXYne z.symm, hY3⟩
      have hRG3 : RP ct φ p M3 Y (mo K d 0 * G) := RP_chg m6 r3 hYn (by omega)
      refine Or.inr ⟨_, rfl, ⟨Y, X, rfl, rfl, by omega, r2, ?_, mo K d 0 * G, r, hRG3, r6, by omega, by omega, ⟨mo K d 0 * u2, mo K d 0 * v2, by rw [e2]; grind⟩, ⟨u1 - q * (mo K d 0 * u2), v1 - q * (mo K d 0 * v2), ?_⟩, ⟨u3 * q + v3 * mo K (ct G (nu ct G - 1)) 0, u3, ?_⟩, ⟨u4 * q + v4 * mo K (ct G (nu ct G - 1)) 0, u4, ?_⟩⟩, ?_⟩
      · refine chg_mono (chg_trans (chg_trans h2 m3) r3) (fun z hz => ?_)
        simp at hz ⊢
        omega
      · have : r = F - q * (mo K d 0 * G) := by rw [r4]; grind
        rw [this, e1, e2]; grind
      · have ed : mo K (ct G (nu ct G - 1)) 0 * mo K d 0 = (1 : T) := by rw [mo_mm, m5, mo_one]
        have eG : G = mo K (ct G (nu ct G - 1)) 0 * (mo K d 0 * G) := by grind
        conv => lhs; rw [e3, r4, eG]
        grind
      · have ed : mo K (ct G (nu ct G - 1)) 0 * mo K d 0 = (1 : T) := by rw [mo_mm, m5, mo_one]
        have eG : G = mo K (ct G (nu ct G - 1)) 0 * (mo K d 0 * G) := by grind
        conv => lhs; rw [e4, r4, eG]
        grind
      · dsimp only
        rw [Int.toNat_natCast, Int.toNat_natCast, hdY]
        have hdX : M3.2 42 X = (nu ct r : Int) - 1 := r6.1
        rw [hdX]
        omega) n (M, a, b) ⟨a, b, rfl, rfl, Or.inl ⟨rfl, rfl⟩, hM, chg_refl _ _, f, g, hf, hg, hNf, hNg, ⟨1, 0, by grind⟩, ⟨0, 1, by grind⟩, ⟨1, 0, by grind⟩, ⟨0, 1, by grind⟩⟩ (by
      dsimp only
      rw [Int.toNat_natCast]
      have : M.2 42 b = (nu ct g : Int) - 1 := hg.1
      omega)
  dsimp only at hX8 hok hch hRF
  subst hX8
  have hX : X < 60 := by omega
  have hm8 : M8.1 36 9 = p := (hch.1 36 9 (by omega)).trans hm
  unfold f_X8_commonRow
  rw [hL, bs]
  dsimp only
  by_cases hF0 : F = 0
  · have hdX : M8.2 42 X = -1 := by
      have := hRF.1
      rw [hF0, (nu_zero K).mpr rfl] at this
      exact this
    have hmon : f_X8_monic n X M8 = some M8 := by
      unfold f_X8_monic
      rw [odI_n X rfl rfl (by rw [k42.2]; exact hX), bs, hdX, gI_s (by omega) (by omega), bs, if_neg (by omega)]
    obtain ⟨M9, c1, c2, c3, c4⟩ := s_copyP hok hX hc hRF hNF hn
    rw [hmon, bs, c1, bs]
    exact ⟨M9, F, u, v, rfl, c2, chg_mono (chg_trans hch c3) (fun z hz => by simp at hz ⊢; omega), c4, hFu, hfF, hgF, fun z => absurd hF0 z⟩
  · obtain ⟨M9, d, m1, m2, m3, m4, m5, m6, m7⟩ := s_monic K hp hφ hok hX hm8 hm2 hRF hNF hF0 hn
    obtain ⟨M10, c1, c2, c3, c4⟩ := s_copyP m2 hX hc m6 (by omega) hn
    rw [m1, bs, c1, bs]
    have ed : mo K d 0 * mo K (ct F (nu ct F - 1)) 0 = (1 : T) := by rw [mo_mm, show d * ct F (nu ct F - 1) = ct F (nu ct F - 1) * d by grind, m5, mo_one]
    refine ⟨M10, mo K d 0 * F, mo K d 0 * u, mo K d 0 * v, rfl, c2, chg_mono (chg_trans (chg_trans hch m3) c3) (fun z hz => by simp at hz ⊢; omega), c4, by rw [hFu]; grind, ?_, ?_, fun _ => by rw [m7, mo_0 K]; grind⟩
    · obtain ⟨k, hk⟩ := hfF
      exact ⟨mo K (ct F (nu ct F - 1)) 0 * k, by rw [hk]; grind⟩
    · obtain ⟨k, hk⟩ := hgF
      exact ⟨mo K (ct F (nu ct F - 1)) 0 * k, by rw [hk]; grind⟩
end MRef9
