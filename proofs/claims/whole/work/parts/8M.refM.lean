/-! one prime's work of commonWhole -/
section MRefM
theorem lc_small {S : Type} [Lean.Grind.CommRing S] {co : S → Nat → Int} (P : isPol co) {f : S} (h0 : nu co f ≠ 0) {p : Nat} {X : Int} (hX : ∀ i, nz (co f i) ≤ X) (hp : X < p) : ¬ (p : Int) ∣ co f (nu co f - 1) := by
  intro h
  have h1 := nu_top P f h0
  have h2 := hX (nu co f - 1)
  have h3 : (p : Int) ∣ nz (co f (nu co f - 1)) := by
    unfold nz
    exact Int.dvd_natAbs.mpr h
  have h4 := Int.le_of_dvd (by unfold nz; omega) h3
  omega
theorem cw_step {S : Type} [Lean.Grind.CommRing S] {co : S → Nat → Int} (P : isPol co) {M : MI} (hM : ok M) {a b k : Nat} (ha : a < 60) (hb : b < 60) (ha3 : a ≠ 3) (ha5 : a ≠ 5) (ha6 : a ≠ 6) (hb3 : b ≠ 3) (hb5 : b ≠ 5) (hb6 : b ≠ 6) (hk : k < 13) (hpb : M.2 37 k = PB k) {A B : S} (hA : RZ co M a A) (hB : RZ co M b B) (hNA : nu co A ≤ 11) (hNB : nu co B ≤ 11) (hA0 : nu co A ≠ 0) (hB0 : nu co B ≠ 0) (hXA : ∀ i, nz (co A i) ≤ 99990) (hXB : ∀ i, nz (co B i) ≤ 99990) {g : S} (hg : prim co g) (hg1 : 0 < co g (nu co g - 1)) (hgA : dv g A) (hgB : dv g B) {c0 : Int} {u v : S} (hc0 : c0 ≠ 0) (he0 : mo P c0 0 * g = u * A + v * B) {H : Nat} (hH : H = Nat.gcd (co A (nu co A - 1)).natAbs (co B (nu co B - 1)).natAbs) {n : Nat} (hn : 18446744073709551616 ≤ n) :
    ∃ M1 M2 M3 M4 M5 M6 M7 M8 M9 e C, f_X8_takePrime k M = some M1 ∧ f_X8_copy n a 5 M1 = some M2 ∧ f_X8_copy n b 6 M2 = some M3 ∧ f_X8_reduce n 5 M3 = some M4 ∧ f_X8_reduce n 6 M4 = some M5 ∧ f_X8_commonRow n 5 6 7 M5 = some M6 ∧ lpF (l_X8_commonWhole_136 H) n (M6, 0) = some M7 ∧ f_X8_center n 7 M7 = some M8 ∧ f_X8_primitive n 7 M8 = some (e, M9) ∧ ok M9 ∧ chm [3, 5, 6, 7] [] M M9 ∧ RZ co M9 7 C ∧ nu co C ≤ 11 ∧ (∀ i, nz (co C i) ≤ 1000000000000) ∧ (dv C A → dv C B → C = g) ∧ (∀ (C0 : Int) (u v : S), mo P C0 0 * g = u * A + v * B → ¬ (pbp k : Int) ∣ C0 → C = g) := by
  obtain ⟨hpr, hod, hlo, hhi, hpe⟩ := pb_prm k hk
  obtain ⟨p, hpp⟩ : ∃ p, pbp k = p := ⟨_, rfl⟩
  rw [hpp] at hpr hod hlo hhi hpe ⊢
  obtain ⟨R, T, I, J, ct, φ, K, hp, hφ⟩ := zp_ex hpr
  have hF := hp.2.2.1
  -- the prime
  have e1 : f_X8_takePrime k M = some (oJ M 36 9 p) := by rw [s_takePrime hM (by omega), hpb, ← hpe]
  have hok1 : ok (oJ M 36 9 p) := ok_oJ hM (by omega)
  have hc1 := chm_md [] M p
  have hm1 : (oJ M 36 9 p).1 36 9 = p := by rw [oJ_1, if_pos ⟨rfl, rfl⟩]
  obtain ⟨M2, e2, hok2, hc2, r25⟩ := s_copyZ hok1 ha (b := 5) (by omega) (RZ_chm hA hc1 (by simp) (by omega)) (by omega) hn
  have hB2 := RZ_chg (RZ_chm hB hc1 (by simp) (by omega)) hc2 (by simp; omega) (by omega)
  obtain ⟨M3, e3, hok3, hc3, r36⟩ := s_copyZ hok2 hb (b := 6) (by omega) hB2 (by omega) hn
  have r35 := RZ_chg r25 hc3 (by simp) (by omega)
  have hm3 : M3.1 36 9 = p := by rw [hc3.1 36 9 (by omega), hc2.1 36 9 (by omega)]; exact hm1
  obtain ⟨M4, e4, hok4, hc4, r45⟩ := s_reduce P K hp hφ hok3 (s := 5) (by omega) hm3 (by omega) r35 (by omega) (fun j => by have := nz_le.mp (hXA j); omega) hn
  have r46 := RZ_chg r36 hc4 (by simp) (by omega)
  have hm4 : M4.1 36 9 = p := by rw [hc4.1 36 9 (by omega)]; exact hm3
  obtain ⟨M5, e5, hok5, hc5, r56⟩ := s_reduce P K hp hφ hok4 (s := 6) (by omega) hm4 (by omega) r46 (by omega) (fun j => by have := nz_le.mp (hXB j); omega) hn
  have hlA := lc_small P hA0 (p := p) hXA (by omega)
  have hlB := lc_small P hB0 (p := p) hXB (by omega)
  have hNrA := rd_N P K hp hφ hlA
  have hNrB := rd_N P K hp hφ hlB
  have r55 := RP_chg r45 hc5 (by simp) (by omega)
  have hm5 : M5.1 36 9 = p := by rw [hc5.1 36 9 (by omega)]; exact hm4
  obtain ⟨M6, h, u1, v1, e6, hok6, hc6, r67, hh, hhA, hhB, hmon⟩ := s_commonRow K hp hφ hok5 (a := 5) (b := 6) (c := 7) (by omega) (by omega) (by omega) (by omega) (by omega) (by omega) hm5 (by omega) r55 r56 (by omega) (by omega) hn
  have hE := pol_EU K hF
  have hrA0 : rd P K hp hφ A ≠ 0 := fun q => by rw [(nu_zero K).mpr q] at hNrA; omega
  have hh0 : h ≠ 0 := fun q => by
    obtain ⟨w, hw⟩ := hhA
    exact hrA0 (by rw [hw, q]; grind)
  have hmon := hmon hh0
  have hNh : nu ct h ≤ 11 := by have := eu_le hE hhA hrA0; omega
  have hnh0 : nu ct h ≠ 0 := fun q => hh0 ((nu_zero K).mp q)
  -- the heads' common divisor
  have hH1 : 0 < H := by
    rw [hH]
    exact Nat.gcd_pos_of_pos_left _ (by have := nu_top P A hA0; omega)
  have hH2 : H ≤ 99990 := by
    have h1 := hXA (nu co A - 1)
    have h2 : H ≤ (co A (nu co A - 1)).natAbs := by rw [hH]; exact Nat.gcd_le_left _ (by have := nu_top P A hA0; omega)
    unfold nz at h1
    omega
  have hm6 : M6.1 36 9 = p := by rw [hc6.1 36 9 (by omega)]; exact hm5
  obtain ⟨M7, e7, hok7, hc7, r77, hN7⟩ := s_scale K hp hφ hok6 hm6 (by omega) r67 (by omega) (c := H) (by omega) (by omega) hn
  have hm7 : M7.1 36 9 = p := by rw [hc7.1 36 9 (by omega)]; exact hm6
  obtain ⟨M8, l, e8, hok8, hc8, r87, hrl, hl1, hNl⟩ := s_center P K hp hφ hok7 (s := 7) (by omega) hm7 (by omega) hod r77 (by omega) hn
  obtain ⟨M9, C, e9, hok9, hc9, r97, hlC, hCp, hC1, hNC, hsc⟩ := s_primitiveZ P hok8 (s := 7) (by omega) r87 (by omega) (by omega) (fun i => by have := hl1 i; have := nz_le.mp (show nz (co l i) ≤ 1000000000000 by omega); omega) hn
  have hlci : ∀ i, co l i = sc co l * co C i := fun i => (congrArg (fun x => co x i) hlC).trans (mo_0 P _ _ _)
  -- the head of l is H
  have hltop : co l (nu co l - 1) = H := by
    have h1 : φ (co l (nu co l - 1)) = φ (H : Int) := by
      rw [← rd_co P K hp hφ, hrl, mo_0 K, hNl, hN7, hmon]; grind
    obtain ⟨w, hw⟩ := (red_eq hφ).mp h1
    have h2 := hl1 (nu co l - 1)
    unfold nz at h2
    have h3 : w = 0 := by
      rcases Int.lt_trichotomy w 0 with q | q | q
      · have := Int.mul_le_mul_of_nonneg_left (show w ≤ -1 by omega) (show (0 : Int) ≤ p by omega)
        omega
      · exact q
      · have := Int.mul_le_mul_of_nonneg_left (show 1 ≤ w by omega) (show (0 : Int) ≤ p by omega)
        omega
    rw [h3] at hw
    omega
  have hscp : 0 < sc co l := by
    have := hsc
    unfold sc at this ⊢
    rw [hltop] at this ⊢
    rw [if_neg (by omega)] at this ⊢
    omega
  have hd1 := gp_ge P K hp hφ hgA hgB hh
  have hlg : ¬ (p : Int) ∣ co g (nu co g - 1) := fun q => by
    obtain ⟨w, hw⟩ := hgA
    have hw0 : w ≠ 0 := fun z => hA0 ((nu_zero P).mpr (by rw [hw, z]; grind))
    have := lc_dv P (prim_ne P hg) hw0
    rw [← hw] at this
    exact hlA (by rw [this]; exact Int.dvd_mul_of_dvd_left q)
  refine ⟨_, M2, M3, M4, M5, M6, M7, M8, M9, _, C, e1, e2, e3, e4, e5, e6, e7, e8, e9, hok9, ?_, r97, by omega, fun i => ?_, fun h1 h2 => ?_, fun C0 u0 v0 h1 h2 => ?_⟩
  · exact chm_mono (chm_trans hc1 (chm_of (chg_trans hc2 (chg_trans hc3 (chg_trans hc4 (chg_trans hc5 (chg_trans hc6 (chg_trans hc7 (chg_trans hc8 hc9))))))))) (fun x hx => by simp at hx ⊢; omega) (fun x hx => hx)
  · have h1 := hl1 i
    have h2 : nz (co l i) = nz (sc co l) * nz (co C i) := by rw [hlci i, nz_mul]
    have h3 : 1 * nz (co C i) ≤ nz (sc co l) * nz (co C i) := Int.mul_le_mul_of_nonneg_right (by unfold nz; omega) (nz_nn _)
    omega
  · exact gp_test P K hp hφ hc0 he0 hg hg1 hlg hd1 hh0 hCp hC1 (by omega) h1 h2
  · have hd2 := gp_le P K hp hφ h2 h1 hhA hhB
    -- H = lc g * k
    obtain ⟨wA, hwA⟩ := hgA
    obtain ⟨wB, hwB⟩ := hgB
    have hwA0 : wA ≠ 0 := fun z => hA0 ((nu_zero P).mpr (by rw [hwA, z]; grind))
    have hwB0 : wB ≠ 0 := fun z => hB0 ((nu_zero P).mpr (by rw [hwB, z]; grind))
    have tA := lc_dv P (prim_ne P hg) hwA0
    have tB := lc_dv P (prim_ne P hg) hwB0
    rw [← hwA] at tA
    rw [← hwB] at tB
    have hdH : (co g (nu co g - 1)).natAbs ∣ H := by
      rw [hH]
      exact Nat.dvd_gcd (by rw [tA, Int.natAbs_mul]; exact Nat.dvd_mul_right _ _) (by rw [tB, Int.natAbs_mul]; exact Nat.dvd_mul_right _ _)
    obtain ⟨kk, hkk⟩ := hdH
    have hkk0 : 0 < kk := by
      rcases Nat.eq_zero_or_pos kk with q | q
      · rw [q] at hkk; omega
      · exact q
    have hHe : (H : Int) = co g (nu co g - 1) * kk := by
      rw [hkk, Int.natCast_mul, Int.natAbs_of_nonneg (by omega)]
    have hkd : kk ∣ (co wA (nu co wA - 1)).natAbs := by
      have h3 : H ∣ (co A (nu co A - 1)).natAbs := by rw [hH]; exact Nat.gcd_dvd_left _ _
      rw [tA, Int.natAbs_mul, hkk] at h3
      exact Nat.dvd_of_mul_dvd_mul_left (by omega) h3
    have hnw : nu co wA ≠ 0 := fun q => hwA0 ((nu_zero P).mp q)
    have hkle : kk ≤ (co wA (nu co wA - 1)).natAbs := Nat.le_of_dvd (by have := nu_top P wA hnw; omega) hkd
    have hNm := nu_mul P int_D (prim_ne P hg) hwA0
    rw [← hwA] at hNm
    have hbd : ∀ i, 2 * nz ((kk : Int) * co g i) < p := fun i => by
      have h4 := bomb P (f := g) (g := wA) (by omega) hwA0 (X := 99990) (by omega) (fun k => by rw [← hwA]; exact hXA k) i
      have h5 : nz ((kk : Int) * co g i) ≤ nz (co g i * co wA (nu co wA - 1)) := by
        rw [nz_mul, nz_mul, Int.mul_comm (nz (co g i))]
        exact Int.mul_le_mul_of_nonneg_right (by unfold nz; omega) (nz_nn _)
      omega
    exact gp_lift P K hp hφ (a := A) (w := wA) hg hg1 hlg hd1 hd2 hmon (k := kk) (by omega) hHe hbd hl1 hrl hscp hCp hC1 hlC
end MRefM
