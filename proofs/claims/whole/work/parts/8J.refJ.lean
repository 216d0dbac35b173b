/-! division over the whole numbers -/
section MRefJ
theorem zd_top {S : Type} [Lean.Grind.CommRing S] {co : S → Nat → Int} (P : isPol co) {G r q h : S} {t : Nat} (hG : nu co G ≠ 0) (hr : ∀ j, t + (nu co G - 1) ≤ j → co r j = 0) (he : r = G * (h - q)) : (∀ j, t ≤ j → co (h - q) j = 0) ∧ (t ≠ 0 → co r (t - 1 + (nu co G - 1)) = co G (nu co G - 1) * co (h - q) (t - 1)) := by
  have hN : ∀ j, t ≤ j → co (h - q) j = 0 := by
    by_cases z : h - q = 0
    · intro j _; rw [z, p_zero P]
    · have h1 : nu co r ≤ t + (nu co G - 1) := nu_le P hr
      have h2 := nu_mul P int_D (fun h => hG ((nu_zero P).mpr h)) z
      rw [← he] at h2
      intro j hj
      exact nu_hi P _ (by omega)
  refine ⟨hN, fun ht => ?_⟩
  rw [he, Nat.add_comm]
  exact mul_top P (fun i hi => nu_hi P G (by omega)) (fun i hi => hN i (by omega))
theorem s_divI {S : Type} [Lean.Grind.CommRing S] {co : S → Nat → Int} (P : isPol co) {M : MI} (hM : ok M) {g k : Nat} (hg : g < 60) (hg4 : g ≠ 4) {G r : S} (hG : RZ co M g G) (hNG : nu co G ≤ 24) (hk : k + nu co G ≤ 24) {q : Int} (hr : ∀ j, j < nu co G → wv M 4 (k + j) = co r (k + j)) {n : Nat} (hn : 18446744073709551616 ≤ n) : lpF (l_X8_divides_169 g k q) n (M, 0) = some (wrM M 41 (96 + k) (nu co G) (fun j => co (r - mo P q k * G) (k + j))) := by
  have hd : M.2 42 g = (nu co G : Int) - 1 := hG.1
  have e := lp_for (step := l_X8_divides_169 g k q) (fun j => (wrM M 41 (96 + k) j (fun j => co (r - mo P q k * G) (k + j)), (j : Int))) (wrM M 41 (96 + k) (nu co G) (fun j => co (r - mo P q k * G) (k + j))) (nu co G) n (fun j hj => by
    have hw : M.1 41 (24 * g + j) = co G j := hG.2 j hj
    have hw2 : M.1 41 (96 + k + j) = co r (k + j) := by have := hr j hj; rw [← this]; show _ = M.1 41 (24 * 4 + (k + j)); rw [show 24 * 4 + (k + j) = 96 + k + j by omega]
    have e1 : (wrM M 41 (96 + k) j (fun j => co (r - mo P q k * G) (k + j))).1 41 (24 * g + j) = co G j := by rw [wrM_1, if_neg (by omega), hw]
    have e2 : (wrM M 41 (96 + k) j (fun j => co (r - mo P q k * G) (k + j))).1 41 (96 + k + j) = co r (k + j) := by rw [wrM_1, if_neg (by omega), hw2]
    have e3 : co r (k + j) - q * co G j = (fun j => co (r - mo P q k * G) (k + j)) j := by
      dsimp only
      rw [p_sub P, mo_mul P, if_pos (by omega), show k + j - k = j by omega]
    unfold l_X8_divides_169
    dsimp only
    rw [odI_n g rfl rfl (by rw [k42.2]; exact hg), bs, show (wrM M 41 (96 + k) j (fun j => co (r - mo P q k * G) (k + j))).2 = M.2 from rfl, hd, gI_s (by omega) (by omega), bs, if_neg (by omega), odJ_n (96 + k + j) rfl (by omega) (by rw [k41.2]; omega), bs, e2, odJ_n (24 * g + j) rfl (by omega) (by rw [k41.2]; omega), bs, e1, osJ_n (96 + k + j) rfl (by omega) (by rw [k41.2]; omega), bs, e3, wrM_s]
    rfl) (by
    unfold l_X8_divides_169
    dsimp only
    rw [odI_n g rfl rfl (by rw [k42.2]; exact hg), bs, show (wrM M 41 (96 + k) (nu co G) (fun j => co (r - mo P q k * G) (k + j))).2 = M.2 from rfl, hd, gI_s (by omega) (by omega), bs, if_pos (by omega)]) (by omega)
  rw [wrM_0] at e
  exact e
theorem nz_le {x b : Int} : nz x ≤ b ↔ -b ≤ x ∧ x ≤ b := by unfold nz; omega
theorem nz_mul_le {x y a b : Int} (hx : nz x ≤ a) (hy : nz y ≤ b) : nz (x * y) ≤ a * b := by
  rw [nz_mul]
  exact Int.mul_le_mul hx hy (nz_nn y) (by have := nz_nn x; omega)
theorem nz_sub_le {x y a b : Int} (hx : nz x ≤ a) (hy : nz y ≤ b) : nz (x - y) ≤ a + b := by unfold nz at *; omega
theorem s_div14 {S : Type} [Lean.Grind.CommRing S] {co : S → Nat → Int} (P : isPol co) {M : MI} (hM : ok M) {g : Nat} (hg : g < 60) {G : S} (hG : RZ co M g G) (hNG : nu co G ≤ 24) (hB : ∀ i, -9223372036854775807 ≤ co G i) {n : Nat} (hn : 18446744073709551616 ≤ n) : ∃ r, lpF (l_X8_divides_14 g M) n 0 = some r ∧ ((r = .inr () ∧ ∀ i, nz (co G i) ≤ 20000000) ∨ (r = .inl (0, M) ∧ ¬ ∀ i, nz (co G i) ≤ 20000000)) := by
  have hd : M.2 42 g = (nu co G : Int) - 1 := hG.1
  refine lp_do (step := l_X8_divides_14 g M) (fun st => ∃ k : Nat, st = k ∧ k ≤ nu co G ∧ ∀ i, i < k → nz (co G i) ≤ 20000000) (fun st => (nu co G - st).toNat) _ (fun st hst => ?_) n 0 ⟨0, rfl, by omega, fun i hi => absurd hi (by omega)⟩ (by omega)
  obtain ⟨k, hk, hk1, hk2⟩ := hst
  subst hk
  unfold l_X8_divides_14
  rw [odI_n g rfl rfl (by rw [k42.2]; exact hg), bs, hd, gI_s (by omega) (by omega), bs]
  by_cases hlt : (nu co G : Int) - 1 < k
  · rw [if_pos hlt]
    refine Or.inl ⟨_, rfl, Or.inl ⟨rfl, fun i => ?_⟩⟩
    rcases Nat.lt_or_ge i (nu co G) with q | q
    · exact hk2 i (by omega)
    · rw [nu_hi P G q]; decide
  · have hw : M.1 41 (24 * g + k) = co G k := hG.2 k (by omega)
    have hB1 := hB k
    have hB2 := (hM.1 41 (24 * g + k)).2
    rw [if_neg hlt, odJ_n (24 * g + k) rfl (by omega) (by rw [k41.2]; omega), bs, s_abs (hM.1 _ _), bs]
    rw [hw] at hB2 ⊢
    have ea : (if co G k < 0 then - co G k else co G k) = nz (co G k) := by unfold nz; split <;> omega
    have hnz : nz (co G k) ≤ 9223372036854775807 := by unfold nz; omega
    rw [ea, gJ_s ⟨by have := nz_nn (co G k); omega, hnz⟩ (by omega), bs]
    by_cases h9 : nz (co G k) ≤ 20000000
    · rw [if_pos h9]
      refine Or.inr ⟨_, rfl, ⟨k + 1, by omega, by omega, fun i hi => ?_⟩, by omega⟩
      rcases Nat.lt_or_ge i k with q | q
      · exact hk2 i q
      · rw [show i = k by omega]; exact h9
    · rw [if_neg h9]
      exact Or.inl ⟨_, rfl, Or.inr ⟨rfl, fun h => h9 (h k)⟩⟩
theorem s_div226 {S : Type} [Lean.Grind.CommRing S] {co : S → Nat → Int} {M : MI} (hM : ok M) {a : Nat} (ha : a < 60) {A r : S} (hA : dg M a = (nu co A : Int) - 1) (hN : nu co A ≤ 24) (hr : ∀ j, j < nu co A → wv M 4 j = co r j) {n : Nat} (hn : 18446744073709551616 ≤ n) : ∃ o, lpF (l_X8_divides_226 a M) n 0 = some o ∧ ((o = .inr () ∧ ∀ i, i < nu co A → co r i = 0) ∨ (o = .inl (0, M) ∧ ¬ ∀ i, i < nu co A → co r i = 0)) := by
  have hd : M.2 42 a = (nu co A : Int) - 1 := hA
  refine lp_do (step := l_X8_divides_226 a M) (fun st => ∃ k : Nat, st = k ∧ k ≤ nu co A ∧ ∀ i, i < k → co r i = 0) (fun st => (nu co A - st).toNat) _ (fun st hst => ?_) n 0 ⟨0, rfl, by omega, fun i hi => absurd hi (by omega)⟩ (by omega)
  obtain ⟨k, hk, hk1, hk2⟩ := hst
  subst hk
  unfold l_X8_divides_226
  rw [odI_n a rfl rfl (by rw [k42.2]; exact ha), bs, hd, gI_s (by omega) (by omega), bs]
  by_cases hlt : (nu co A : Int) - 1 < k
  · rw [if_pos hlt]
    exact Or.inl ⟨_, rfl, Or.inl ⟨rfl, fun i hi => hk2 i (by omega)⟩⟩
  · have hw : M.1 41 (96 + k) = co r k := hr k (by omega)
    have h1 := hM.1 41 (96 + k)
    rw [if_neg hlt, odJ_n (96 + k) rfl (by omega) (by rw [k41.2]; omega), bs, gJ_s h1 (by omega), bs, hw]
    by_cases h9 : co r k = 0
    · rw [if_pos h9]
      refine Or.inr ⟨_, rfl, ⟨k + 1, by omega, by omega, fun i hi => ?_⟩, by omega⟩
      rcases Nat.lt_or_ge i k with q | q
      · exact hk2 i q
      · rw [show i = k by omega]; exact h9
    · rw [if_neg h9]
      exact Or.inl ⟨_, rfl, Or.inr ⟨rfl, fun h => h9 (h k (by omega))⟩⟩
theorem s_div98 {S : Type} [Lean.Grind.CommRing S] {co : S → Nat → Int} (P : isPol co) {M : MI} (hM : ok M) {g a : Nat} (hg : g < 60) (ha : a < 60) (hg3 : g ≠ 3) (hg4 : g ≠ 4) (ha3 : a ≠ 3) (ha4 : a ≠ 4) {b : Int} (hb0 : 0 ≤ b) (hb : b ≤ 400000000) {G A : S} (hG : RZ co M g G) (hA : RZ co M a A) (hNG : nu co G ≤ 24) (hNA : nu co A ≤ 24) (hG0 : nu co G ≠ 0) (hBG : ∀ i, nz (co G i) ≤ 20000000) (hBA : ∀ i, nz (co A i) ≤ 1000000000000000000) (h4 : ∀ j, j < nu co A → wv M 4 j = co A j) {n : Nat} (hn : 18446744073709551616 ≤ n) :
    ∃ o, lpF (l_X8_divides_98 n g b (co G (nu co G - 1))) n (M, (nu co A : Int) - nu co G) = some o ∧ ∃ M', ok M' ∧ chg [3, 4] M M' ∧ ((o = .inl (0, M') ∧ ¬ ∃ h, A = G * h ∧ ∀ i, nz (co h i) ≤ b) ∨ (o = .inr M' ∧ ∃ q r, A = G * q + r ∧ (∀ i, nz (co q i) ≤ b) ∧ (∀ j, nu co G ≤ j + 1 → j < nu co A → co r j = 0) ∧ (∀ j, nu co A ≤ j → co r j = 0) ∧ (∀ j, j < nu co A → wv M' 4 j = co r j) ∧ (∀ j, j + nu co G ≤ nu co A → wv M' 3 j = co q j) ∧ (∀ j, nu co A < j + nu co G → co q j = 0))) := by
  refine lp_do (step := l_X8_divides_98 n g b (co G (nu co G - 1))) (fun st => ok st.1 ∧ chg [3, 4] M st.1 ∧ ∃ (t : Int) (q r : S), st.2 = t - 1 ∧ (t ≤ 0 → nu co A + 1 ≤ nu co G + t.toNat ∨ t = 0) ∧ -30 ≤ t ∧ t + nu co G ≤ nu co A + 1 ∧ A = G * q + r ∧ (∀ i, nz (co q i) ≤ b) ∧ (∀ j : Nat, t + nu co G ≤ j + 1 → j < nu co A → co r j = 0) ∧ (∀ j, nu co A ≤ j → co r j = 0) ∧ (∀ i, nz (co r i) ≤ 1000000000000000000 + (nu co A + 1 - nu co G - t) * 8000000000000000) ∧ (∀ j, j < nu co A → wv st.1 4 j = co r j) ∧ (∀ j : Nat, t ≤ j → j + nu co G ≤ nu co A → wv st.1 3 j = co q j) ∧ (∀ j, nu co A < j + nu co G → co q j = 0) ∧ (∀ j : Nat, (j : Int) < t → co q j = 0)) (fun st => (st.2 + 50).toNat) _ (fun st hst => ?_) n (M, (nu co A : Int) - nu co G) ⟨hM, chg_refl _ _, (nu co A : Int) + 1 - nu co G, 0, A, by dsimp only; omega, fun h => by omega, by omega, by omega, by grind, fun i => by rw [p_zero P]; exact hb0, fun j h1 h2 => absurd h1 (by omega), fun j hj => nu_hi P A hj, fun i => by have := hBA i; omega, h4, fun j h1 h2 => absurd h1 (by omega), fun j _ => p_zero P j, fun j _ => p_zero P j⟩ (by dsimp only; omega)
  obtain ⟨M1, y⟩ := st
  obtain ⟨k1, k2, t, q, r, hy, ht0, ht1, ht2, hA1, hq, hr1, hr2, hrB, h41, h31, hq2, hq3⟩ := hst
  dsimp only at k1 k2 hy h41 h31
  subst hy
  have hG1 : RZ co M1 g G := RZ_chg hG k2 (by simp; omega) hNG
  have hd : M1.2 42 g = (nu co G : Int) - 1 := hG1.1
  have hhd : nz (co G (nu co G - 1)) ≤ 20000000 := hBG _
  have hh0 : co G (nu co G - 1) ≠ 0 := nu_top P G hG0
  unfold l_X8_divides_98
  dsimp only
  rw [gI_s (by omega) (by omega), bs]
  by_cases hlt : t - 1 < 0
  · rw [if_pos hlt]
    refine Or.inl ⟨_, rfl, M1, k1, k2, Or.inr ⟨rfl, q, r, hA1, hq, fun j h1 h2 => hr1 j (by omega) h2, hr2, h41, fun j h1 => h31 j (by omega) h1, hq2⟩⟩
  · obtain ⟨k, hk⟩ : ∃ k : Nat, t - 1 = k := ⟨(t - 1).toNat, by omega⟩
    have ek : t = k + 1 := by omega
    subst ek
    rw [if_neg hlt, show (k : Int) + 1 - 1 = k by omega]
    have hx : M1.1 41 (96 + k + (nu co G - 1)) = co r (k + (nu co G - 1)) := by
      have := h41 (k + (nu co G - 1)) (by omega)
      rw [← this]; show _ = M1.1 41 (24 * 4 + (k + (nu co G - 1))); rw [show 24 * 4 + (k + (nu co G - 1)) = 96 + k + (nu co G - 1) by omega]
    obtain ⟨x, hxe⟩ : ∃ x, co r (k + (nu co G - 1)) = x := ⟨_, rfl⟩
    obtain ⟨hd0, hhe⟩ : ∃ hd0, co G (nu co G - 1) = hd0 := ⟨_, rfl⟩
    have hxB := hrB (k + (nu co G - 1))
    rw [hxe] at hxB hx
    rw [hhe] at hhd hh0 ⊢
    have hxB2 : nz x ≤ 1300000000000000000 := by omega
    have hx1 := nz_le.mp hxB2
    have hh1 := nz_le.mp hhd
    have er : orJ x hd0 = some (x.tmod hd0) := by unfold orJ; rw [if_pos ⟨by omega, by omega, hh0, by omega⟩]
    have eq' : oqJ x hd0 = some (x.tdiv hd0) := by unfold oqJ; rw [if_pos ⟨by omega, by omega, hh0, by omega⟩]
    have hqn : (x.tdiv hd0).natAbs ≤ x.natAbs := by rw [Int.natAbs_tdiv]; exact Nat.div_le_self _ _
    have hrn : (x.tmod hd0).natAbs ≤ x.natAbs := by rw [Int.natAbs_tmod]; exact Nat.mod_le _ _
    have hno : ∀ h, A = G * h → (∀ i, nz (co h i) ≤ b) → x = hd0 * co h k := by
      intro h he _
      have hrr : r = G * (h - q) := by
        have : G * h = G * q + r := by rw [← he]; exact hA1
        grind
      obtain ⟨_, z2⟩ := zd_top P (t := k + 1) hG0 (fun j hj => by
        rcases Nat.lt_or_ge j (nu co A) with w | w
        · exact hr1 j (by omega) w
        · exact hr2 j w) hrr
      have z3 := z2 (by omega)
      rw [show k + 1 - 1 = k by omega, hxe, hhe, p_sub P, hq3 k (by omega)] at z3
      rw [z3]; rw [Int.sub_zero]
    rw [odI_n g rfl rfl (by rw [k42.2]; exact hg), bs, hd, odJ_n (96 + k + (nu co G - 1)) rfl (by omega) (by rw [k41.2]; omega), bs, hx, er, bs, gJ_s (by omega) (by omega), bs]
    by_cases hm0 : x.tmod hd0 = 0
    · rw [if_pos hm0, eq', bs, s_abs (by omega), bs]
      have ea : (if x.tdiv hd0 < 0 then - x.tdiv hd0 else x.tdiv hd0) = nz (x.tdiv hd0) := by unfold nz; split <;> omega
      have hqz : nz (x.tdiv hd0) ≤ 1300000000000000000 := by unfold nz at *; omega
      have hqz0 := nz_nn (x.tdiv hd0)
      rw [ea, gJ_s (by omega) (by omega), bs]
      have hxq : x = hd0 * x.tdiv hd0 := by have := Int.mul_tdiv_add_tmod x hd0; omega
      by_cases hqb : nz (x.tdiv hd0) ≤ b
      · obtain ⟨Q, hQ⟩ : ∃ Q, x.tdiv hd0 = Q := ⟨_, rfl⟩
        rw [hQ] at hqb hxq hqz ⊢
        rw [if_pos hqb, bs, osJ_n (72 + k) rfl (by omega) (by rw [k41.2]; omega), bs]
        have hQJ : inJ Q := by have := nz_le.mp hqz; omega
        have hok2 : ok (oJ M1 41 (72 + k) Q) := ok_oJ k1 hQJ
        have hch2 : chg [3] M1 (oJ M1 41 (72 + k) Q) := chg_win rfl (fun k' i h => by rw [oJ_1, if_neg (by omega)])
        have hG2 : RZ co (oJ M1 41 (72 + k) Q) g G := RZ_chg hG1 hch2 (by simp; omega) hNG
        have h42 : ∀ j, j < nu co A → wv (oJ M1 41 (72 + k) Q) 4 j = co r j := fun j hj => by rw [hch2.2.2.1 4 j (by simp) (by omega)]; exact h41 j hj
        have hL := s_divI P hok2 hg hg4 hG2 hNG (k := k) (r := r) (q := Q) (by omega) (fun j hj => h42 _ (by omega)) hn
        rw [hL, bs]
        have hmg : ∀ i, nz (co (mo P Q k * G) i) ≤ 8000000000000000 := fun i => by
          rw [mo_mul P]
          split
          · have := nz_mul_le hqb (hBG (i - k))
            have h2 : b * 20000000 ≤ 400000000 * 20000000 := Int.mul_le_mul_of_nonneg_right hb (by omega)
            omega
          · decide
        have hr' : ∀ i, nz (co (r - mo P Q k * G) i) ≤ 1000000000000000000 + (nu co A + 1 - nu co G - k) * 8000000000000000 := fun i => by
          rw [p_sub P]
          have := nz_sub_le (hrB i) (hmg i)
          omega
        have hw4 : ∀ j, j < nu co A → wv (wrM (oJ M1 41 (72 + k) Q) 41 (96 + k) (nu co G) (fun j => co (r - mo P Q k * G) (k + j))) 4 j = co (r - mo P Q k * G) j := fun j hj => by
          show (wrM _ 41 (96 + k) (nu co G) _).1 41 (24 * 4 + j) = _
          rw [wrM_1]
          by_cases z : k ≤ j ∧ j < k + nu co G
          · rw [if_pos (by omega), show k + (24 * 4 + j - (96 + k)) = j by omega]
          · rw [if_neg (by omega), show (oJ M1 41 (72 + k) Q).1 41 (24 * 4 + j) = wv (oJ M1 41 (72 + k) Q) 4 j from rfl, h42 j hj, p_sub P, mo_mul P]
            by_cases z2 : k ≤ j
            · rw [if_pos z2, nu_hi P G (by omega)]; omega
            · rw [if_neg z2]; omega
        have hch3 : chg [4] (oJ M1 41 (72 + k) Q) (wrM (oJ M1 41 (72 + k) Q) 41 (96 + k) (nu co G) (fun j => co (r - mo P Q k * G) (k + j))) := chg_win rfl (fun k' i h => by rw [wrM_1, if_neg (by omega)])
        have hok3 : ok (wrM (oJ M1 41 (72 + k) Q) 41 (96 + k) (nu co G) (fun j => co (r - mo P Q k * G) (k + j))) := ok_wrM hok2 (fun i hi => by have := nz_le.mp (hr' (k + i)); omega)
        refine Or.inr ⟨_, rfl, ⟨hok3, chg_mono (chg_trans (chg_trans k2 hch2) hch3) (fun x hx => by simp at hx ⊢; omega), (k : Int), q + mo P Q k, r - mo P Q k * G, by dsimp only; omega, fun h => by omega, by omega, by omega, by rw [hA1]; grind, fun i => ?_, fun j h1 h2 => ?_, fun j hj => ?_, fun i => ?_, hw4, fun j h1 h2 => ?_, fun j hj => ?_, fun j hj => ?_⟩, by dsimp only; omega⟩
        · rw [p_add P, mo_co P]
          by_cases z : i = k
          · rw [if_pos z, z, hq3 k (by omega)]; rw [show (0 : Int) + Q = Q by omega]; exact hqb
          · rw [if_neg z, show co q i + 0 = co q i by omega]; exact hq i
        · rw [p_sub P, mo_mul P]
          by_cases z : j = k + (nu co G - 1)
          · rw [if_pos (by omega), z, show k + (nu co G - 1) - k = nu co G - 1 by omega, hxe, hhe]
            rw [hxq, Int.mul_comm]; omega
          · rw [hr1 j (by omega) h2]
            split
            · rw [nu_hi P G (by omega)]; omega
            · omega
        · rw [p_sub P, mo_mul P, hr2 j hj]
          split
          · rw [nu_hi P G (by omega)]; omega
          · omega
        · have := hr' i; omega
        · dsimp only
          rw [hch3.2.2.1 3 j (by simp) (by omega)]
          show (oJ M1 41 (72 + k) Q).1 41 (24 * 3 + j) = _
          rw [oJ_1, p_add P, mo_co P]
          by_cases z : j = k
          · rw [if_pos (by omega), if_pos z, z, hq3 k (by omega)]; omega
          · rw [if_neg (by omega), if_neg z]
            have := h31 j (by omega) h2
            rw [show M1.1 41 (24 * 3 + j) = wv M1 3 j from rfl, this]; omega
        · rw [p_add P, mo_co P, if_neg (by omega), hq2 j hj]; omega
        · rw [p_add P, mo_co P, if_neg (by omega), hq3 j (by omega)]; omega
      · rw [if_neg hqb]
        refine Or.inl ⟨_, rfl, M1, k1, k2, Or.inl ⟨rfl, ?_⟩⟩
        rintro ⟨h, he, hh⟩
        have h5 := hno h he hh
        have : x.tdiv hd0 = co h k := by rw [h5, Int.mul_tdiv_cancel_left _ hh0]
        exact hqb (by rw [this]; exact hh k)
    · rw [if_neg hm0]
      refine Or.inl ⟨_, rfl, M1, k1, k2, Or.inl ⟨rfl, ?_⟩⟩
      rintro ⟨h, he, hh⟩
      have h5 := hno h he hh
      exact hm0 (by rw [h5, Int.mul_tmod_right])
end MRefJ
