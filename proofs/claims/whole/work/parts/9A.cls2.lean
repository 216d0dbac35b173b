/-! the class: Euclid, contents, derivatives, the order -/
section MCls2
theorem pow_s (t : Nat) : 2 ^ (t + 1) = 2 * 2 ^ t := by rw [Nat.pow_succ, Nat.mul_comm]
theorem c_commonMeasure {x y : Int} (hx : -9223372036854775807 ≤ x ∧ x ≤ 9223372036854775807) (hy : -9223372036854775807 ≤ y ∧ y ≤ 9223372036854775807) {n : Nat} (hn : 18446744073709551616 ≤ n) : f_X5_commonMeasure n x y = some ((Nat.gcd x.natAbs y.natAbs : Nat) : Int) := by
  have e126 : (2 : Nat) ^ 126 = 9223372036854775808 * 9223372036854775808 := by decide
  obtain ⟨r, h1, rfl⟩ := lp_do (step := l_X5_commonMeasure_15) (fun st => ∃ a b t : Nat, st = ((a : Int), (b : Int), (t : Int)) ∧ a ≤ 9223372036854775807 ∧ b ≤ 9223372036854775807 ∧ Nat.gcd a b = Nat.gcd x.natAbs y.natAbs ∧ t ≤ 127 ∧ (t = 0 ∨ (b < a ∧ a * b * 2 ^ (t - 1) < 2 ^ 126 ∧ 1 ≤ t))) (fun st => (200 - st.2.2).toNat) (fun r => r = ((Nat.gcd x.natAbs y.natAbs : Nat) : Int)) (fun st hst => by
    obtain ⟨a, b, t, hst, ha, hb, hg, ht, hp⟩ := hst
    subst hst
    unfold l_X5_commonMeasure_15
    dsimp only
    rw [gI_s (by omega) (by omega), bs, if_neg (by omega), gJ_s (by omega) (by omega), bs]
    by_cases h0 : (b : Int) = 0
    · rw [if_pos h0]
      refine Or.inl ⟨_, rfl, ?_⟩
      rw [← hg, show b = 0 by omega, Nat.gcd_zero_right]
    · rw [if_neg h0]
      have hm := Nat.mod_lt a (show 0 < b by omega)
      have e : orJ (a : Int) (b : Int) = some ((a % b : Nat) : Int) := by
        unfold orJ
        rw [if_pos ⟨by omega, by omega, h0, by omega⟩]; rfl
      rw [e, bs]
      have hhalf : a % b * 2 ≤ a ∨ a < b := by
        rcases Nat.lt_or_ge a b with z | z
        · exact Or.inr z
        · left
          have h5 := Nat.mod_add_div a b
          have h6 : 1 ≤ a / b := Nat.div_pos z (by omega)
          have h7 : b * 1 ≤ b * (a / b) := Nat.mul_le_mul_left _ h6
          omega
      have ht' : t ≤ 126 := by
        rcases hp with z | ⟨z1, z2, z3⟩
        · omega
        · rcases Nat.lt_or_ge t 127 with w | w
          · omega
          · exfalso
            have e1 : t - 1 = 126 := by omega
            rw [e1] at z2
            have : 1 * 2 ^ 126 ≤ a * b * 2 ^ 126 := Nat.mul_le_mul_right _ (Nat.mul_pos (by omega) (by omega))
            omega
      refine Or.inr ⟨_, rfl, ⟨b, a % b, t + 1, rfl, hb, by omega, ?_, by omega, Or.inr ⟨hm, ?_, by omega⟩⟩, by dsimp only; omega⟩
      · rw [← hg, Nat.gcd_comm a b, Nat.gcd_rec b a, Nat.gcd_comm]
      · rw [show t + 1 - 1 = t by omega]
        rcases hp with z | ⟨z1, z2, z3⟩
        · rw [z, Nat.pow_zero, Nat.mul_one, e126]
          exact Nat.mul_lt_mul_of_lt_of_le (by omega) (by omega) (by omega)
        · have hh : a % b * 2 ≤ a := by
            rcases hhalf with w | w
            · exact w
            · omega
          obtain ⟨s, rfl⟩ : ∃ s, t = s + 1 := ⟨t - 1, by omega⟩
          rw [show s + 1 - 1 = s by omega] at z2
          rw [pow_s]
          have e2 : b * (a % b) * (2 * 2 ^ s) = (a % b * 2) * b * 2 ^ s := by
            rw [Nat.mul_comm b, Nat.mul_assoc, Nat.mul_assoc, Nat.mul_assoc, Nat.mul_left_comm b 2]
          rw [e2]
          exact Nat.lt_of_le_of_lt (Nat.mul_le_mul_right _ (Nat.mul_le_mul_right _ hh)) z2) n ((x.natAbs : Int), (y.natAbs : Int), 0) ⟨_, _, 0, rfl, by omega, by omega, rfl, by omega, Or.inl rfl⟩ (by dsimp only; omega)
  unfold f_X5_commonMeasure
  rw [j_abs (by omega), bs, j_abs (by omega), bs, h1, bs]
theorem c_signedContent {S : Type} [Lean.Grind.CommRing S] {co : S → Nat → Int} (P : isPol co) {M : MI} (hM : ok M) {a : Nat} (ha : row a) {f : S} (hf : CZ co M a f) (hB : ∀ i, nz (co f i) ≤ 9223372036854775807) {n : Nat} (hn : 18446744073709551616 ≤ n) : f_X5_signedContent n a M = some (cont co f) := by
  have hd := c_degree P hM ha hf hn
  obtain ⟨r, h1, m, hr, hm1, hm2⟩ := lp_do (step := l_X5_signedContent_10 n a M) (fun st => ∃ (m t : Nat), st = ((m : Int), (t : Int) - 1) ∧ t ≤ nu co f ∧ m ≤ 9223372036854775807 ∧ (∀ i, t ≤ i → i < nu co f → m ∣ (co f i).natAbs) ∧ ∀ d : Nat, (∀ i, t ≤ i → i < nu co f → d ∣ (co f i).natAbs) → d ∣ m) (fun st => (st.2 + 1).toNat) (fun r => ∃ m : Nat, r = (m : Int) ∧ (∀ i, i < nu co f → m ∣ (co f i).natAbs) ∧ ∀ d : Nat, (∀ i, i < nu co f → d ∣ (co f i).natAbs) → d ∣ m) (fun st hst => by
    obtain ⟨m, t, hst, ht, hmb, hm1, hm2⟩ := hst
    subst hst
    unfold l_X5_signedContent_10
    dsimp only
    rw [gI_s (by have := hf.2; omega) (by omega), bs]
    by_cases h0 : (t : Int) - 1 < 0
    · rw [if_pos h0]
      exact Or.inl ⟨_, rfl, m, rfl, fun i hi => hm1 i (by omega) hi, fun d hd => hm2 d (fun i _ hi => hd i hi)⟩
    · rw [if_neg h0, gJ_s (by omega) (by omega), bs]
      by_cases h1 : (m : Int) = 1
      · rw [if_pos h1]
        refine Or.inl ⟨_, rfl, m, rfl, fun i hi => by rw [show m = 1 by omega]; exact Nat.one_dvd _, fun d hd => hm2 d (fun i _ hi => hd i hi)⟩
      · have hw := hf.1 (t - 1) (by have := hf.2; omega)
        have hb := hB (t - 1)
        unfold nz at hb
        rw [if_neg h1, odJ_n (t - 1) ha.1 (by omega) (by rw [ha.2]; have := hf.2; omega), bs, hw, c_commonMeasure (by omega) (by omega) hn, bs, Int.natAbs_natCast]
        refine Or.inr ⟨_, rfl, ⟨Nat.gcd m (co f (t - 1)).natAbs, t - 1, Prod.ext rfl (by dsimp only; omega), by omega, ?_, fun i hi1 hi2 => ?_, fun d hd => ?_⟩, by dsimp only; omega⟩
        · rcases Nat.eq_zero_or_pos m with z | z
          · rw [z, Nat.gcd_zero_left]; omega
          · exact Nat.le_trans (Nat.gcd_le_left _ z) hmb
        · rcases Nat.lt_or_ge i t with z | z
          · rw [show i = t - 1 by omega]; exact Nat.gcd_dvd_right _ _
          · exact Nat.dvd_trans (Nat.gcd_dvd_left _ _) (hm1 i z hi2)
        · exact Nat.dvd_gcd (hm2 d (fun i hi1 hi2 => hd i (by omega) hi2)) (hd (t - 1) (by omega) (by omega))) n (0, (nu co f : Int) - 1) ⟨0, nu co f, rfl, by omega, by omega, fun i h1 h2 => absurd h1 (by omega), fun d _ => Nat.dvd_zero d⟩ (by have := hf.2; dsimp only; omega)
  have hmc : m = cg (co f) (nu co f) := Nat.dvd_antisymm (cg_gr hm1) (hm2 _ (fun i hi => cg_dv i hi))
  have hN := hf.2
  unfold f_X5_signedContent
  rw [hd, bs, h1, bs, gI_s (by omega) (by omega), bs, hr]
  unfold cont
  by_cases h0 : nu co f = 0
  · rw [if_pos (by omega), if_pos h0, bs, hmc, h0]; rfl
  · have hw := hf.1 (nu co f - 1) (by omega)
    rw [if_neg (by omega), odJ_n (nu co f - 1) ha.1 (by omega) (by rw [ha.2]; omega), bs, gJ_s (hM.1 _ _) (by omega), bs, hw, if_neg h0]
    unfold sc
    by_cases h2 : 0 ≤ co f (nu co f - 1)
    · rw [if_pos h2, bs, if_neg (by omega), hmc]
    · rw [if_neg h2, bs, if_pos (by omega), hmc]
theorem cont_J {S : Type} [Lean.Grind.CommRing S] {co : S → Nat → Int} (P : isPol co) {f : S} (hB : ∀ i, nz (co f i) ≤ 9223372036854775807) : -9223372036854775807 ≤ cont co f ∧ cont co f ≤ 9223372036854775807 := by
  unfold cont
  split
  · omega
  · have h2 : (sc co f).natAbs = cg (co f) (nu co f) := by unfold sc; split <;> omega
    have h3 : cg (co f) (nu co f) ≤ 9223372036854775807 := cg_le (fun i _ => by have := hB i; unfold nz at this; omega)
    omega
theorem c_makePrimitive {S : Type} [Lean.Grind.CommRing S] {co : S → Nat → Int} (P : isPol co) {M : MI} (hM : ok M) {a : Nat} (ha : row a) {f : S} (hf : CZ co M a f) (hB : ∀ i, nz (co f i) ≤ 9223372036854775807) {n : Nat} (hn : 18446744073709551616 ≤ n) : ∃ M' g, f_X5_makePrimitive n a M = some M' ∧ ok M' ∧ chJ [a] M M' ∧ CZ co M' a g ∧ ((nu co f = 0 ∧ g = f) ∨ (nu co f ≠ 0 ∧ f = mo P (sc co f) 0 * g ∧ prim co g ∧ 0 < co g (nu co g - 1) ∧ nu co g = nu co f ∧ sc co f ≠ 0)) ∧ ∀ i, nz (co g i) ≤ nz (co f i) := by
  have hs := c_signedContent P hM ha hf hB hn
  have hcJ := cont_J P hB
  by_cases h0 : nu co f = 0
  · refine ⟨M, f, ?_, hM, chJ_refl _ _, hf, Or.inl ⟨h0, rfl⟩, fun i => Int.le_refl _⟩
    have hc0 : cont co f = 0 := if_pos h0
    unfold f_X5_makePrimitive
    rw [hs, bs, hc0, gJ_s (by omega) (by omega), bs, if_pos rfl]
  · have hc : cont co f = sc co f := if_neg h0
    rw [hc] at hs hcJ
    obtain ⟨hsc, ⟨g, hg⟩, hall⟩ := sc_spec P h0
    obtain ⟨g1, g2, g3, g4⟩ := hall g hg
    have hco : ∀ i, co f i = sc co f * co g i := fun i => (congrArg (fun x => co x i) hg).trans (mo_0 P _ _ _)
    have hnzg : ∀ i, nz (co g i) ≤ nz (co f i) := fun i => by
      rw [hco i, nz_mul]
      have h3 : 1 * nz (co g i) ≤ nz (sc co f) * nz (co g i) := Int.mul_le_mul_of_nonneg_right (by unfold nz; omega) (nz_nn _)
      omega
    by_cases h1 : sc co f = 1
    · have hfg : f = g := by
        refine p_ext P (fun i => ?_)
        rw [hco i, h1]; omega
      refine ⟨M, g, ?_, hM, chJ_refl _ _, by rw [← hfg]; exact hf, Or.inr ⟨h0, hg, g1, g2, g3, hsc⟩, hnzg⟩
      unfold f_X5_makePrimitive
      rw [hs, bs, h1, gJ_s (by omega) (by omega), bs, if_neg (by omega), gJ_s (by omega) (by omega), bs, if_pos rfl]
    · have hL : lpF (l_X5_makePrimitive_20 a (sc co f)) n (M, 0) = some (wrM M a 0 11 (co g)) := by
        have e := lp_for (step := l_X5_makePrimitive_20 a (sc co f)) (fun k => (wrM M a 0 k (co g), (k : Int))) (wrM M a 0 11 (co g)) 11 n (fun k hk => by
          have hw : (wrM M a 0 k (co g)).1 a k = co f k := by rw [wrM_1, if_neg (by omega)]; exact hf.1 k hk
          have hb := hB k
          unfold nz at hb
          have eq : oqJ (co f k) (sc co f) = some (co g k) := by
            unfold oqJ
            rw [if_pos ⟨by omega, by omega, hsc, by omega⟩, g4 k]
          unfold l_X5_makePrimitive_20
          dsimp only
          rw [show olA a = some ((kn a : Nat) : Int) from if_pos (Or.inr ha.1), bs, ha.2, gI_s (by omega) (by omega), bs, if_neg (by omega), odJ_n k ha.1 rfl (by rw [ha.2]; omega), bs, hw, eq, bs, osJ_n k ha.1 rfl (by rw [ha.2]; omega), bs]
          have := wrM_s M a 0 k (co g)
          rw [Nat.zero_add] at this
          rw [this]
          rfl) (by
          unfold l_X5_makePrimitive_20
          dsimp only
          rw [show olA a = some ((kn a : Nat) : Int) from if_pos (Or.inr ha.1), bs, ha.2, gI_s (by omega) (by omega), bs, if_pos (by omega)]) (by omega)
        rw [wrM_0] at e
        exact e
      refine ⟨wrM M a 0 11 (co g), g, ?_, ok_wrM hM (fun i _ => ?_), chJ_wr M a 0 11 _, ⟨fun i hi => by rw [wrM_1, if_pos (by omega), Nat.sub_zero], by have := hf.2; omega⟩, Or.inr ⟨h0, hg, g1, g2, g3, hsc⟩, hnzg⟩
      · unfold f_X5_makePrimitive
        rw [hs, bs, gJ_s (by omega) (by omega), bs, if_neg hsc, gJ_s (by omega) (by omega), bs, if_neg h1, hL, bs]
      · have := hnzg i
        have := hB i
        unfold nz at *
        omega
theorem c_derive {S : Type} [Lean.Grind.CommRing S] {co : S → Nat → Int} (P : isPol co) {M : MI} (hM : ok M) {a b : Nat} (ha : row a) (hb : row b) (hab : a ≠ b) {f : S} (hf : CZ co M a f) (hB : ∀ i, nz (co f i) ≤ 100000000000000000) {n : Nat} (hn : 18446744073709551616 ≤ n) : ∃ M', f_X5_derive n a b M = some M' ∧ ok M' ∧ chJ [b] M M' ∧ CZ co M' b (dr P f) := by
  have hdr : ∀ i, co (dr P f) i = (i + 1 : Nat) * co f (i + 1) := fun i => by rw [dr_co P, nt_int]
  have hL : lpF (l_X5_derive_2 a b) n (M, 1) = some (wrM M b 0 10 (co (dr P f))) := by
    have e := lp_for (step := l_X5_derive_2 a b) (fun k => (wrM M b 0 k (co (dr P f)), ((k + 1 : Nat) : Int))) (wrM M b 0 10 (co (dr P f))) 10 n (fun k hk => by
      have hw : (wrM M b 0 k (co (dr P f))).1 a (k + 1) = co f (k + 1) := by rw [wrM_1, if_neg (fun z => hab z.1)]; exact hf.1 (k + 1) (by omega)
      unfold l_X5_derive_2
      dsimp only
      rw [gI_s (by omega) (by omega), bs, if_neg (by omega), gI_s (by omega) (by omega), bs, odJ_n (k + 1) ha.1 rfl (by rw [ha.2]; omega), bs, hw, osJ_n k hb.1 (by omega) (by rw [hb.2]; omega), bs, ← hdr]
      have := wrM_s M b 0 k (co (dr P f))
      rw [Nat.zero_add] at this
      rw [this]
      rfl) (by
      unfold l_X5_derive_2
      dsimp only
      rw [gI_s (by omega) (by omega), bs, if_pos (by omega)]) (by omega)
    rw [wrM_0] at e
    exact e
  have hd10 : co (dr P f) 10 = 0 := by rw [hdr, nu_hi P f (by have := hf.2; omega)]; omega
  refine ⟨wrM M b 0 11 (co (dr P f)), ?_, ok_wrM hM (fun i hi => ?_), chJ_wr M b 0 11 _, ⟨fun i hi => by rw [wrM_1, if_pos (by omega), Nat.sub_zero], nu_le P (fun i hi => by rw [hdr, nu_hi P f (by have := hf.2; omega)]; omega)⟩⟩
  · unfold f_X5_derive
    rw [hL, bs, osJ_n (i := 10) 10 hb.1 rfl (by rw [hb.2]; omega), bs]
    have := wrM_s M b 0 10 (co (dr P f))
    rw [Nat.zero_add, hd10] at this
    rw [this]
  · rw [hdr]
    have h1 := hB (i + 1)
    have h2 : nz (((i + 1 : Nat) : Int) * co f (i + 1)) ≤ 24 * 100000000000000000 := nz_mul_le (by unfold nz; omega) h1
    unfold nz at h2
    omega
theorem c_isBefore {S : Type} [Lean.Grind.CommRing S] {co : S → Nat → Int} (P : isPol co) {M : MI} (hM : ok M) {a b : Nat} (ha : row a) (hb : row b) {f g : S} (hf : CZ co M a f) (hg : CZ co M b g) {n : Nat} (hn : 18446744073709551616 ≤ n) : (ltz co f g ∧ f_X5_isBefore n a b M = some 1) ∨ (¬ ltz co f g ∧ f_X5_isBefore n a b M = some 0) := by
  obtain ⟨r, hr, hr2⟩ := lp_do (step := l_X5_isBefore_3 a b M) (fun st => ∃ t : Nat, st = (t : Int) - 1 ∧ t ≤ 11 ∧ ∀ j, t ≤ j → co f j = co g j) (fun st => (st + 1).toNat) (fun r => (r = .inl 1 ∧ ltz co f g) ∨ (r = .inl 0 ∧ ¬ ltz co f g) ∨ (r = .inr () ∧ f = g)) (fun st hst => by
    obtain ⟨t, ht, ht1, ht2⟩ := hst
    subst ht
    unfold l_X5_isBefore_3
    rw [gI_s (by omega) (by omega), bs]
    by_cases h0 : (t : Int) - 1 < 0
    · rw [if_pos h0]
      exact Or.inl ⟨_, rfl, Or.inr (Or.inr ⟨rfl, p_ext P (fun i => ht2 i (by omega))⟩)⟩
    · have wf := hf.1 (t - 1) (by omega)
      have wg := hg.1 (t - 1) (by omega)
      have i1 := hM.1 a (t - 1)
      have i2 := hM.1 b (t - 1)
      rw [if_neg h0, odJ_n (t - 1) ha.1 (by omega) (by rw [ha.2]; omega), bs, odJ_n (t - 1) hb.1 (by omega) (by rw [hb.2]; omega), bs, gJ_s i1 i2, bs]
      rw [wf] at i1 ⊢
      rw [wg] at i2 ⊢
      by_cases h1 : co f (t - 1) = co g (t - 1)
      · rw [if_pos h1]
        refine Or.inr ⟨_, rfl, ⟨t - 1, by omega, by omega, fun j hj => ?_⟩, by omega⟩
        rcases Nat.lt_or_ge j t with z | z
        · rw [show j = t - 1 by omega]; exact h1
        · exact ht2 j z
      · rw [if_neg h1, bs, bs, gJ_s i1 i2, bs]
        by_cases h2 : co g (t - 1) ≤ co f (t - 1)
        · rw [if_pos h2]
          refine Or.inl ⟨_, rfl, Or.inr (Or.inl ⟨rfl, ?_⟩)⟩
          rintro ⟨k, k1, k2⟩
          rcases Nat.lt_trichotomy k (t - 1) with z | z | z
          · exact h1 (k1 _ z)
          · subst z; omega
          · have := ht2 k (by omega); omega
        · rw [if_neg h2]
          exact Or.inl ⟨_, rfl, Or.inl ⟨rfl, t - 1, fun j hj => ht2 j (by omega), by omega⟩⟩) n 10 ⟨11, rfl, by omega, fun j hj => by rw [nu_hi P f (by have := hf.2; omega), nu_hi P g (by have := hg.2; omega)]⟩ (by omega)
  unfold f_X5_isBefore
  rw [hr, bs]
  rcases hr2 with ⟨q, h⟩ | ⟨q, h⟩ | ⟨q, h⟩
  · rw [q]; exact Or.inl ⟨h, rfl⟩
  · rw [q]; exact Or.inr ⟨h, rfl⟩
  · rw [q]; exact Or.inr ⟨by rw [h]; exact ltz_irr g, rfl⟩
end MCls2
