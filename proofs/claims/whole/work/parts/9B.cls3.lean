/-! the class: division over the whole numbers -/
section MCls3
theorem c_divI {S : Type} [Lean.Grind.CommRing S] {co : S → Nat → Int} (P : isPol co) {M : MI} {b k : Nat} (hb : row b) (hb19 : b ≠ 19) {G r : S} (hG : CZ co M b G) (hG0 : nu co G ≠ 0) (hk : k + nu co G ≤ 11) {q : Int} (hr : ∀ j, j < nu co G → M.1 19 (k + j) = co r (k + j)) {n : Nat} (hn : 18446744073709551616 ≤ n) : lpF (l_X1_divide_103 b ((nu co G : Int) - 1) k q) n (M, 0) = some (wrM M 19 k (nu co G) (fun j => co (r - mo P q k * G) (k + j))) := by
  have e := lp_for (step := l_X1_divide_103 b ((nu co G : Int) - 1) k q) (fun j => (wrM M 19 k j (fun j => co (r - mo P q k * G) (k + j)), (j : Int))) (wrM M 19 k (nu co G) (fun j => co (r - mo P q k * G) (k + j))) (nu co G) n (fun j hj => by
    have e1 : (wrM M 19 k j (fun j => co (r - mo P q k * G) (k + j))).1 b j = co G j := by rw [wrM_1, if_neg (fun z => hb19 z.1)]; exact hG.1 j (by have := hG.2; omega)
    have e2 : (wrM M 19 k j (fun j => co (r - mo P q k * G) (k + j))).1 19 (k + j) = co r (k + j) := by rw [wrM_1, if_neg (by omega)]; exact hr j hj
    have e3 : co r (k + j) - q * co G j = (fun j => co (r - mo P q k * G) (k + j)) j := by
      dsimp only
      rw [p_sub P, mo_mul P, if_pos (by omega), show k + j - k = j by omega]
    unfold l_X1_divide_103
    dsimp only
    rw [gI_s (by omega) (by omega), bs, if_neg (by omega), odJ_n (k := 19) (k + j) rfl (by omega) (show k + j < 11 by omega), bs, e2, odJ_n j hb.1 rfl (by rw [hb.2]; omega), bs, e1, osJ_n (k := 19) (k + j) rfl (by omega) (show k + j < 11 by omega), bs, e3, wrM_s]
    rfl) (by
    unfold l_X1_divide_103
    dsimp only
    rw [gI_s (by omega) (by omega), bs, if_pos (by omega)]) (by omega)
  rw [wrM_0] at e
  exact e
theorem c_div40 {S : Type} [Lean.Grind.CommRing S] {co : S → Nat → Int} (P : isPol co) {M : MI} (hM : ok M) {b : Nat} (hb : row b) (hb18 : b ≠ 18) (hb19 : b ≠ 19) {G A : S} (hG : CZ co M b G) (hNA : nu co A ≤ 11) (hG0 : nu co G ≠ 0) (hBG : ∀ i, nz (co G i) ≤ 20000000) (hBA : ∀ i, nz (co A i) ≤ 1000000000000000000) (h19 : ∀ j, j < 11 → M.1 19 j = co A j) (h18 : ∀ j, j < 11 → M.1 18 j = 0) {n : Nat} (hn : 18446744073709551616 ≤ n) :
    ∃ o, lpF (l_X1_divide_40 n b ((nu co G : Int) - 1) (co G (nu co G - 1))) n (M, (nu co A : Int) - nu co G) = some o ∧ ∃ M', ok M' ∧ chJ [18, 19] M M' ∧ ((o = .inl (0, M') ∧ ¬ ∃ h, A = G * h ∧ ∀ i, nz (co h i) ≤ 1073741824) ∨ (o = .inr M' ∧ ∃ q r, A = G * q + r ∧ (∀ i, nz (co q i) ≤ 1073741824) ∧ (∀ j, nu co G ≤ j + 1 → co r j = 0 ∨ nu co A < nu co G) ∧ (nu co A < nu co G → q = 0) ∧ (∀ j, nu co A ≤ j → co r j = 0) ∧ (∀ j, j < 11 → M'.1 19 j = co r j) ∧ (∀ j, j < 11 → M'.1 18 j = co q j) ∧ nu co q ≤ 11)) := by
  have hNG := hG.2
  refine lp_do (step := l_X1_divide_40 n b ((nu co G : Int) - 1) (co G (nu co G - 1))) (fun st => ok st.1 ∧ chJ [18, 19] M st.1 ∧ ∃ (t : Int) (q r : S), st.2 = t - 1 ∧ -30 ≤ t ∧ t + nu co G ≤ nu co A + 1 ∧ (nu co A < nu co G → q = 0) ∧ A = G * q + r ∧ (∀ i, nz (co q i) ≤ 1073741824) ∧ (∀ j : Nat, t + nu co G ≤ j + 1 → 0 ≤ t → co r j = 0) ∧ (∀ j, nu co A ≤ j → co r j = 0) ∧ (∀ i, nz (co r i) ≤ 1000000000000000000 + (nu co A + 1 - nu co G - t) * 30000000000000000) ∧ (∀ j, j < 11 → st.1.1 19 j = co r j) ∧ (∀ j : Nat, j < 11 → st.1.1 18 j = co q j) ∧ (∀ j, nu co A < j + nu co G → co q j = 0) ∧ (∀ j : Nat, (j : Int) < t → co q j = 0) ∧ (nu co G ≤ nu co A → 0 ≤ t)) (fun st => (st.2 + 50).toNat) _ (fun st hst => ?_) n (M, (nu co A : Int) - nu co G) ⟨hM, chJ_refl _ _, (nu co A : Int) + 1 - nu co G, 0, A, by dsimp only; omega, by omega, by omega, fun _ => rfl, by grind, fun i => by rw [p_zero P]; decide, fun j h1 h2 => nu_hi P A (by omega), fun j hj => nu_hi P A hj, fun i => by have := hBA i; omega, h19, fun j hj => by rw [p_zero P]; exact h18 j hj, fun j _ => p_zero P j, fun j _ => p_zero P j, fun h => by omega⟩ (by dsimp only; omega)
  obtain ⟨M1, y⟩ := st
  obtain ⟨k1, k2, t, q, r, hy, ht1, ht2, hq0, hA1, hq, hr1, hr2, hrB, h41, h31, hq2, hq3, ht0⟩ := hst
  dsimp only at k1 k2 hy h41 h31
  subst hy
  have hG1 : CZ co M1 b G := CZ_ch hG k2 (by simp; omega)
  have hhd : nz (co G (nu co G - 1)) ≤ 20000000 := hBG _
  have hh0 : co G (nu co G - 1) ≠ 0 := nu_top P G hG0
  unfold l_X1_divide_40
  dsimp only
  rw [gI_s (by omega) (by omega), bs]
  by_cases hlt : t - 1 < 0
  · rw [if_pos hlt]
    refine Or.inl ⟨_, rfl, M1, k1, k2, Or.inr ⟨rfl, q, r, hA1, hq, fun j h1 => ?_, hq0, hr2, h41, h31, nu_le P (fun j hj => hq2 j (by omega))⟩⟩
    rcases Nat.lt_or_ge (nu co A) (nu co G) with z | z
    · exact Or.inr z
    · have := ht0 z
      exact Or.inl (hr1 j (by omega) this)
  · obtain ⟨k, hk⟩ : ∃ k : Nat, t - 1 = k := ⟨(t - 1).toNat, by omega⟩
    have ek : t = k + 1 := by omega
    subst ek
    rw [if_neg hlt, show (k : Int) + 1 - 1 = k by omega]
    have hx : M1.1 19 (k + (nu co G - 1)) = co r (k + (nu co G - 1)) := h41 _ (by omega)
    obtain ⟨x, hxe⟩ : ∃ x, co r (k + (nu co G - 1)) = x := ⟨_, rfl⟩
    obtain ⟨hd0, hhe⟩ : ∃ hd0, co G (nu co G - 1) = hd0 := ⟨_, rfl⟩
    have hxB := hrB (k + (nu co G - 1))
    rw [hxe] at hxB hx
    rw [hhe] at hhd hh0 ⊢
    have hxB2 : nz x ≤ 1500000000000000000 := by omega
    have hx1 := nz_le.mp hxB2
    have hh1 := nz_le.mp hhd
    have eq' : oqJ x hd0 = some (x.tdiv hd0) := by unfold oqJ; rw [if_pos ⟨by omega, by omega, hh0, by omega⟩]
    have hqn : (x.tdiv hd0).natAbs ≤ x.natAbs := by rw [Int.natAbs_tdiv]; exact Nat.div_le_self _ _
    have hrn : (x.tmod hd0).natAbs ≤ x.natAbs := by rw [Int.natAbs_tmod]; exact Nat.mod_le _ _
    have hdm := Int.mul_tdiv_add_tmod x hd0
    have hcm : x.tdiv hd0 * hd0 = hd0 * x.tdiv hd0 := Int.mul_comm _ _
    have hno : ∀ h, A = G * h → x = hd0 * co h k := by
      intro h he
      have hrr : r = G * (h - q) := by
        have : G * h = G * q + r := by rw [← he]; exact hA1
        grind
      obtain ⟨_, z2⟩ := zd_top P (t := k + 1) hG0 (fun j hj => hr1 j (by omega) (by omega)) hrr
      have z3 := z2 (by omega)
      rw [show k + 1 - 1 = k by omega, hxe, hhe, p_sub P, hq3 k (by omega)] at z3
      rw [z3]; rw [Int.sub_zero]
    have e8 : odJ M1 19 ((k : Int) + ((nu co G : Int) - 1)) = some x := by rw [odJ_n (k := 19) (k + (nu co G - 1)) rfl (by omega) (show _ < 11 by omega), hx]
    rw [e8, bs, eq', bs, bs, gJ_s (by omega) (by omega), bs]
    by_cases hm0 : x.tdiv hd0 * hd0 = x
    · rw [if_pos hm0, j_abs (by omega), bs]
      rw [gJ_s (by omega) (by omega), bs]
      have hxq : x = hd0 * x.tdiv hd0 := by omega
      by_cases hqb : (((x.tdiv hd0).natAbs : Nat) : Int) ≤ 1073741824
      · obtain ⟨Q, hQ⟩ : ∃ Q, x.tdiv hd0 = Q := ⟨_, rfl⟩
        rw [hQ] at hqb hxq ⊢
        have hqz : nz Q ≤ 1073741824 := hqb
        rw [if_pos hqb, osJ_n (k := 18) k rfl rfl (show k < 11 by omega), bs]
        have hQJ : inJ Q := by have := nz_le.mp hqz; omega
        have hok2 : ok (oJ M1 18 k Q) := ok_oJ k1 hQJ
        have hch2 : chJ [18] M1 (oJ M1 18 k Q) := chJ_oJ M1 18 k Q
        have hG2 : CZ co (oJ M1 18 k Q) b G := CZ_ch hG1 hch2 (by simpa using hb18)
        have h42 : ∀ j, j < 11 → (oJ M1 18 k Q).1 19 j = co r j := fun j hj => by rw [hch2.2 19 j (by simp)]; exact h41 j hj
        have hL := c_divI P (M := oJ M1 18 k Q) hb hb19 hG2 hG0 (k := k) (r := r) (q := Q) (by omega) (fun j hj => h42 _ (by omega)) hn
        rw [hL, bs]
        have hmg : ∀ i, nz (co (mo P Q k * G) i) ≤ 30000000000000000 := fun i => by
          rw [mo_mul P]
          split
          · have := nz_mul_le hqz (hBG (i - k))
            omega
          · decide
        have hr' : ∀ i, nz (co (r - mo P Q k * G) i) ≤ 1000000000000000000 + (nu co A + 1 - nu co G - k) * 30000000000000000 := fun i => by
          rw [p_sub P]
          have := nz_sub_le (hrB i) (hmg i)
          omega
        obtain ⟨M3, hM3⟩ : ∃ M3, M3 = wrM (oJ M1 18 k Q) 19 k (nu co G) (fun j => co (r - mo P Q k * G) (k + j)) := ⟨_, rfl⟩
        rw [← hM3]
        have hw4 : ∀ j, j < 11 → M3.1 19 j = co (r - mo P Q k * G) j := fun j hj => by
          rw [hM3, wrM_1]
          by_cases z : k ≤ j ∧ j < k + nu co G
          · rw [if_pos (by omega), show k + (j - k) = j by omega]
          · rw [if_neg (by omega), h42 j hj, p_sub P, mo_mul P]
            by_cases z2 : k ≤ j
            · rw [if_pos z2, nu_hi P G (by omega)]; omega
            · rw [if_neg z2]; omega
        have hch3 : chJ [19] (oJ M1 18 k Q) M3 := by rw [hM3]; exact chJ_wr _ 19 k _ _
        have hok3 : ok M3 := by rw [hM3]; exact ok_wrM hok2 (fun i hi => by have := nz_le.mp (hr' (k + i)); omega)
        refine Or.inr ⟨_, rfl, ⟨hok3, chJ_mono (chJ_trans (chJ_trans k2 hch2) hch3) (fun x hx => by simp at hx ⊢; omega), (k : Int), q + mo P Q k, r - mo P Q k * G, by dsimp only; omega, by omega, by omega, fun h => by omega, by rw [hA1]; grind, fun i => ?_, fun j h1 h2 => ?_, fun j hj => ?_, hr', hw4, fun j h1 => ?_, fun j hj => ?_, fun j hj => ?_, fun _ => by omega⟩, by dsimp only; omega⟩
        · rw [p_add P, mo_co P]
          by_cases z : i = k
          · rw [if_pos z, z, hq3 k (by omega)]; rw [show (0 : Int) + Q = Q by omega]; exact hqz
          · rw [if_neg z, show co q i + 0 = co q i by omega]; exact hq i
        · rw [p_sub P, mo_mul P]
          by_cases z : j = k + (nu co G - 1)
          · rw [if_pos (by omega), z, show k + (nu co G - 1) - k = nu co G - 1 by omega, hxe, hhe]
            rw [hxq, Int.mul_comm]; omega
          · rw [hr1 j (by omega) (by omega)]
            split
            · rw [nu_hi P G (by omega)]; omega
            · omega
        · rw [p_sub P, mo_mul P, hr2 j hj]
          split
          · rw [nu_hi P G (by omega)]; omega
          · omega
        · dsimp only
          rw [hch3.2 18 j (by simp), oJ_1, p_add P, mo_co P]
          by_cases z : j = k
          · rw [if_pos ⟨rfl, z⟩, if_pos z, z, hq3 k (by omega)]; omega
          · rw [if_neg (fun w => z w.2), if_neg z, h31 j h1]; omega
        · rw [p_add P, mo_co P, if_neg (by omega), hq2 j hj]; omega
        · rw [p_add P, mo_co P, if_neg (by omega), hq3 j (by omega)]; omega
      · rw [if_neg hqb]
        refine Or.inl ⟨_, rfl, M1, k1, k2, Or.inl ⟨rfl, ?_⟩⟩
        rintro ⟨h, he, hh⟩
        have h5 := hno h he
        have h6 : x.tdiv hd0 = co h k := by rw [h5, Int.mul_tdiv_cancel_left _ hh0]
        exact hqb (by rw [h6]; exact hh k)
    · rw [if_neg hm0]
      refine Or.inl ⟨_, rfl, M1, k1, k2, Or.inl ⟨rfl, ?_⟩⟩
      rintro ⟨h, he, hh⟩
      have h5 := hno h he
      exact hm0 (by rw [h5, Int.mul_tdiv_cancel_left _ hh0, Int.mul_comm])
theorem c_divide {S : Type} [Lean.Grind.CommRing S] {co : S → Nat → Int} (P : isPol co) {M : MI} (hM : ok M) {a b : Nat} (ha : row a) (hb : row b) (ha18 : a ≠ 18) (ha19 : a ≠ 19) (hb18 : b ≠ 18) (hb19 : b ≠ 19) {G A : S} (hA : CZ co M a A) (hG : CZ co M b G) (hBG : ∀ i, nz (co G i) ≤ 20000000) (hBA : ∀ i, nz (co A i) ≤ 1000000000000000000) {n : Nat} (hn : 18446744073709551616 ≤ n) :
    ∃ M', ok M' ∧ chJ [18, 19] M M' ∧ ((f_X1_divide n a b M = some (1, M') ∧ nu co G ≠ 0 ∧ ∃ q, A = G * q ∧ CZ co M' 18 q ∧ ∀ i, nz (co q i) ≤ 1073741824) ∨ (f_X1_divide n a b M = some (0, M') ∧ (nu co G = 0 ∨ ¬ ∃ q, A = G * q ∧ ∀ i, nz (co q i) ≤ 1073741824))) := by
  have hdb := c_degree P hM hb hG hn
  have hNG := hG.2
  have hNA := hA.2
  by_cases hG0 : nu co G = 0
  · refine ⟨M, hM, chJ_refl _ _, Or.inr ⟨?_, Or.inl hG0⟩⟩
    unfold f_X1_divide
    rw [hdb, bs, gI_s (by omega) (by omega), bs, if_neg (by omega)]
  · have r18 : row 18 := ⟨rfl, rfl⟩
    have r19 : row 19 := ⟨rfl, rfl⟩
    have e2 : odJ M b ((nu co G : Int) - 1) = some (co G (nu co G - 1)) := by rw [odJ_n (nu co G - 1) hb.1 (by omega) (by rw [hb.2]; omega), hG.1 _ (by omega)]
    obtain ⟨M1, e3, hok1, hc1, h19⟩ := c_copy hM ha r19
    have e4 := j_fill (M := M1) (a := 18) rfl (by decide) 0 hn
    rw [show kn 18 = 11 from rfl] at e4
    obtain ⟨M2, hM2⟩ : ∃ M2, M2 = wrM M1 18 0 11 (fun _ => 0) := ⟨_, rfl⟩
    rw [← hM2] at e4
    have hok2 : ok M2 := by rw [hM2]; exact ok_wrM hok1 (fun _ _ => by omega)
    have hc2 : chJ [18] M1 M2 := by rw [hM2]; exact chJ_wr _ 18 0 11 _
    have hA2 : CZ co M2 a A := CZ_ch (CZ_ch hA hc1 (by simpa using ha19)) hc2 (by simpa using ha18)
    have hG2 : CZ co M2 b G := CZ_ch (CZ_ch hG hc1 (by simpa using hb19)) hc2 (by simpa using hb18)
    have hda := c_degree P hok2 ha hA2 hn
    obtain ⟨o, h40, M3, hok3, hc3, ho⟩ := c_div40 P hok2 hb hb18 hb19 hG2 hNA hG0 hBG hBA (fun j hj => by rw [hc2.2 19 j (by simp), h19 j hj]; exact hA.1 j hj) (fun j hj => by rw [hM2, wrM_1, if_pos (by omega)]) hn
    have hch : chJ [18, 19] M M3 := chJ_mono (chJ_trans hc1 (chJ_trans hc2 hc3)) (fun x hx => by simp at hx ⊢; omega)
    have he : (nu co A : Int) - 1 - ((nu co G : Int) - 1) = nu co A - nu co G := by omega
    rcases ho with ⟨eo, hno⟩ | ⟨eo, q, r, hAq, hq, hr1, hq0, hr2, h41, h31, hNq⟩
    · refine ⟨M3, hok3, hch, Or.inr ⟨?_, Or.inr hno⟩⟩
      unfold f_X1_divide
      rw [hdb, bs, gI_s (by omega) (by omega), bs, if_pos (by omega), e2, bs, e3, bs, e4, bs, hda, bs, he, h40, bs, eo]
    · have hr11 : nu co r ≤ 11 := nu_le P (fun i hi => hr2 i (by omega))
      have hdr := c_degree P hok3 r19 (f := r) ⟨h41, hr11⟩ hn
      by_cases hz : nu co r = 0
      · refine ⟨M3, hok3, hch, Or.inl ⟨?_, hG0, q, ?_, ⟨h31, hNq⟩, hq⟩⟩
        · unfold f_X1_divide
          rw [hdb, bs, gI_s (by omega) (by omega), bs, if_pos (by omega), e2, bs, e3, bs, e4, bs, hda, bs, he, h40, bs, eo]
          dsimp only
          rw [hdr, bs, gI_s (by omega) (by omega), bs, if_neg (by omega)]; rfl
        · rw [hAq, (nu_zero P).mp hz]; grind
      · refine ⟨M3, hok3, hch, Or.inr ⟨?_, Or.inr ?_⟩⟩
        · unfold f_X1_divide
          rw [hdb, bs, gI_s (by omega) (by omega), bs, if_pos (by omega), e2, bs, e3, bs, e4, bs, hda, bs, he, h40, bs, eo]
          dsimp only
          rw [hdr, bs, gI_s (by omega) (by omega), bs, if_pos (by omega)]; rfl
        · rintro ⟨h, heq, hh⟩
          have hrr : r = G * (h - q) := by
            have : G * h = G * q + r := by rw [← heq]; exact hAq
            grind
          have hrne : r ≠ 0 := fun z => hz ((nu_zero P).mpr z)
          have hGne : G ≠ 0 := fun z => hG0 ((nu_zero P).mpr z)
          rcases Nat.lt_or_ge (nu co A) (nu co G) with z | z
          · have hq00 := hq0 z
            rw [hq00] at hrr
            have hhq : h - 0 ≠ 0 := fun w => hrne (by rw [hrr, w]; grind)
            have := nu_mul P int_D hGne hhq
            rw [← hrr] at this
            have h7 : nu co r ≤ nu co A := nu_le P hr2
            have : nu co (h - 0) ≠ 0 := fun w => hhq ((nu_zero P).mp w)
            omega
          · have hlow : ∀ j, 0 + (nu co G - 1) ≤ j → co r j = 0 := fun j hj => by
              rcases hr1 j (by omega) with w | w
              · exact w
              · omega
            obtain ⟨z1, _⟩ := zd_top P (t := 0) hG0 hlow hrr
            have : h - q = 0 := p_ext P (fun i => by rw [z1 i (by omega), p_zero P])
            exact hrne (by rw [hrr, this]; grind)
end MCls3
