/-! the class's primes; one prime's work of find -/
section MFind
def prp (k : Nat) : Nat := [16777259, 16777289, 16777291, 16777331, 16777333, 16777337, 16777381, 16777421, 16777441, 16777447, 16777469, 16777499, 16777507, 16777531, 16777571, 16777577].getD k 0
theorem prp_prm (k : Nat) (hk : k < 16) : prm (prp k) ∧ prp k % 2 = 1 ∧ 16777216 ≤ prp k ∧ prp k ≤ 16778000 ∧ PRn k = (prp k : Int) := by
  have hc : k = 0 ∨ k = 1 ∨ k = 2 ∨ k = 3 ∨ k = 4 ∨ k = 5 ∨ k = 6 ∨ k = 7 ∨ k = 8 ∨ k = 9 ∨ k = 10 ∨ k = 11 ∨ k = 12 ∨ k = 13 ∨ k = 14 ∨ k = 15 := by omega
  rcases hc with rfl | rfl | rfl | rfl | rfl | rfl | rfl | rfl | rfl | rfl | rfl | rfl | rfl | rfl | rfl | rfl
  · exact ⟨pr_16777259, by decide, by decide, by decide, by decide⟩
  · exact ⟨pr_16777289, by decide, by decide, by decide, by decide⟩
  · exact ⟨pr_16777291, by decide, by decide, by decide, by decide⟩
  · exact ⟨pr_16777331, by decide, by decide, by decide, by decide⟩
  · exact ⟨pr_16777333, by decide, by decide, by decide, by decide⟩
  · exact ⟨pr_16777337, by decide, by decide, by decide, by decide⟩
  · exact ⟨pr_16777381, by decide, by decide, by decide, by decide⟩
  · exact ⟨pr_16777421, by decide, by decide, by decide, by decide⟩
  · exact ⟨pr_16777441, by decide, by decide, by decide, by decide⟩
  · exact ⟨pr_16777447, by decide, by decide, by decide, by decide⟩
  · exact ⟨pr_16777469, by decide, by decide, by decide, by decide⟩
  · exact ⟨pr_16777499, by decide, by decide, by decide, by decide⟩
  · exact ⟨pr_16777507, by decide, by decide, by decide, by decide⟩
  · exact ⟨pr_16777531, by decide, by decide, by decide, by decide⟩
  · exact ⟨pr_16777571, by decide, by decide, by decide, by decide⟩
  · exact ⟨pr_16777577, by decide, by decide, by decide, by decide⟩
theorem prp_inj : ∀ i j, i < j → j < 16 → prp i ≠ prp j := by
  intro i j h1 h2
  have : ∀ j : Fin 16, ∀ i : Fin 16, i.1 < j.1 → prp i.1 ≠ prp j.1 := by decide
  exact this ⟨j, h2⟩ ⟨i, by omega⟩ h1
theorem prp_no {C : Nat} (hC : C ≠ 0) {B E : Nat} (hCB : C ≤ B ^ E) (hB : B ^ E < pdN prp 16) (h : ∀ j, j < 16 → prp j ∣ C) : False := by
  have h1 := Nat.le_of_dvd (by omega) (pdN_dv (f := prp) (k := 16) (fun j hj => (prp_prm j hj).1) prp_inj h)
  omega
theorem cf_step {S : Type} [Lean.Grind.CommRing S] {co : S → Nat → Int} (P : isPol co) {M : MI} (hM : ok M) {a b c k : Nat} (habc : a = 10 ∧ ((b = 11 ∧ c = 12) ∨ (b = 30 ∧ c = 31))) (hk : k < 16) {A B : S} (hA : CZ co M a A) (hB : CZ co M b B) (hA0 : nu co A ≠ 0) (hB0 : nu co B ≠ 0) (hXA : ∀ i, nz (co A i) ≤ 9999) (hXB : ∀ i, nz (co B i) ≤ 99990) {g : S} (hg : prim co g) (hg1 : 0 < co g (nu co g - 1)) (hgA : dv g A) (hgB : dv g B) {c0 : Int} {u v : S} (hc0 : c0 ≠ 0) (he0 : mo P c0 0 * g = u * A + v * B) {H : Nat} (hH : H = Nat.gcd (co A (nu co A - 1)).natAbs (co B (nu co B - 1)).natAbs) {n : Nat} (hn : 18446744073709551616 ≤ n) :
    ∃ M1 M2 M3 M4 C, f_X3_choose (PRn k) M = some M1 ∧ f_X3_commonDivisor n a b c M1 = some M2 ∧ f_X3_lift n c H M2 = some M3 ∧ f_X5_makePrimitive n c M3 = some M4 ∧ ok M4 ∧ chJ [1, 14, 16, 17, c] M M4 ∧ M4.1 1 0 = prp k ∧ CZ co M4 c C ∧ (∀ i, nz (co C i) ≤ 10000000) ∧ (dv C A → dv C B → C = g) ∧ (∀ (C0 : Int) (u v : S), mo P C0 0 * g = u * A + v * B → ¬ (prp k : Int) ∣ C0 → C = g) ∧ ∃ (R T : Type) (_ : Lean.Grind.CommRing R) (_ : Lean.Grind.CommRing T) (ct : T → Nat → R) (φ : Int → R) (K : isPol ct) (hp : isZp R (prp k)) (hφ : isRed φ (prp k)) (x y : T), rd P K hp hφ C = x * rd P K hp hφ A + y * rd P K hp hφ B := by
  obtain ⟨hpr, hod, hlo, hhi, hpe⟩ := prp_prm k hk
  obtain ⟨p, hpp⟩ : ∃ p, prp k = p := ⟨_, rfl⟩
  rw [hpp] at hpr hod hlo hhi hpe ⊢
  obtain ⟨R, T, I, J, ct, φ, K, hp, hφ⟩ := zp_ex hpr
  have hF := hp.2.2.1
  have hNA := hA.2
  have hNB := hB.2
  have ra : row a := by rw [habc.1]; exact ⟨rfl, rfl⟩
  have rb : row b := by rcases habc.2 with z | z <;> rw [z.1] <;> exact ⟨rfl, rfl⟩
  have rc : row c := by rcases habc.2 with z | z <;> rw [z.2] <;> exact ⟨rfl, rfl⟩
  have e1 : f_X3_choose (PRn k) M = some (oJ M 1 0 (p : Int)) := by
    rw [hpe, c_choose (by omega), if_pos (by omega)]
  have hok1 : ok (oJ M 1 0 (p : Int)) := ok_oJ hM (by omega)
  have hc1 : chJ [1] M (oJ M 1 0 (p : Int)) := chJ_oJ M 1 0 p
  have hm1 : (oJ M 1 0 (p : Int)).1 1 0 = p := by rw [oJ_1, if_pos ⟨rfl, rfl⟩]
  have hA1 := CZ_ch hA hc1 (by simp; omega)
  have hB1 := CZ_ch hB hc1 (by simp; omega)
  have hlA := lc_small P hA0 (p := p) hXA (by omega)
  have hlB := lc_small P hB0 (p := p) hXB (by omega)
  have hNrA := rd_N P K hp hφ hlA
  have hNrB := rd_N P K hp hφ hlB
  obtain ⟨M2, h, u1, v1, e2, hok2, hc2, r2, hh, hhA, hhB, hmon⟩ := c_commonDivisor K hp hφ (by omega) hok1 (a := a) (b := b) (c := c) ra rb rc (by omega) (by omega) hm1 (f := rd P K hp hφ A) (g := rd P K hp hφ B) (fun i hi => by rw [hA1.1 i hi, rd_co P K hp hφ]) (fun i hi => by rw [hB1.1 i hi, rd_co P K hp hφ]) (by omega) (by omega) (fun i hi => by rw [hA1.1 i hi]; have := nz_le.mp (hXA i); omega) (fun i hi => by rw [hB1.1 i hi]; have := nz_le.mp (hXB i); omega) hn
  have hE := pol_EU K hF
  have hrA0 : rd P K hp hφ A ≠ 0 := fun q => by rw [(nu_zero K).mpr q] at hNrA; omega
  have hh0 : h ≠ 0 := fun q => by
    obtain ⟨w, hw⟩ := hhA
    exact hrA0 (by rw [hw, q]; grind)
  have hmon := hmon hh0
  have hNh : nu ct h ≤ 11 := by have := eu_le hE hhA hrA0; omega
  have hnh0 : nu ct h ≠ 0 := fun q => hh0 ((nu_zero K).mp q)
  have hH1 : 0 < H := by
    rw [hH]
    exact Nat.gcd_pos_of_pos_left _ (by have := nu_top P A hA0; omega)
  have hH2 : H ≤ 9999 := by
    have h1 := hXA (nu co A - 1)
    have h2 : H ≤ (co A (nu co A - 1)).natAbs := by rw [hH]; exact Nat.gcd_le_left _ (by have := nu_top P A hA0; omega)
    unfold nz at h1
    omega
  have hm2 : M2.1 1 0 = p := by rw [hc2.2 1 0 (by simp; omega)]; exact hm1
  obtain ⟨M3, l, e3, hok3, hc3, r3, hrl, hl1⟩ := c_lift P K hp hφ (by omega) hod hok2 (a := c) rc hm2 r2 (s := H) (by omega) (by omega) hn
  have hφH : φ (H : Int) ≠ 0 := fun q => by
    have := Int.le_of_dvd (by omega) ((hφ.2.2.1 _).mp q)
    omega
  have hN7 : nu ct (mo K (φ (H : Int)) 0 * h) = nu ct h := by
    have h0 : mo K (φ (H : Int)) 0 ≠ 0 := fun z => by have := mo_N K 0 hφH; rw [z, (nu_zero K).mpr rfl] at this; omega
    have := nu_mul K (isF_D hF) h0 hh0
    rw [mo_N K 0 hφH] at this
    omega
  have hzr : ∀ i, co l i = 0 ↔ ct (mo K (φ (H : Int)) 0 * h) i = 0 := fun i => by
    rw [← hrl, rd_co P K hp hφ, hφ.2.2.1]
    constructor
    · intro q; rw [q]; exact Int.dvd_zero _
    · rintro ⟨w, hw⟩
      have h2 := hl1 i
      unfold nz at h2
      have h3 : w = 0 := by
        rcases Int.lt_trichotomy w 0 with q | q | q
        · have := Int.mul_le_mul_of_nonneg_left (show w ≤ -1 by omega) (show (0 : Int) ≤ p by omega)
          omega
        · exact q
        · have := Int.mul_le_mul_of_nonneg_left (show 1 ≤ w by omega) (show (0 : Int) ≤ p by omega)
          omega
      rw [h3] at hw
      omega
  have hNl : nu co l = nu ct h := by
    rw [← hN7]
    exact nu_eq P (fun i hi => (hzr i).mpr (nu_hi K _ hi)) (fun h0 q => nu_top K _ h0 ((hzr _).mp q))
  obtain ⟨M4, C, e4, hok4, hc4, r4, hlC, hX4⟩ := c_makePrimitive P hok3 (a := c) rc r3 (fun i => by have := hl1 i; omega) hn
  obtain ⟨-, hlC, hCp, hC1, hNC, hsc⟩ := hlC.resolve_left (fun q => by omega)
  have hltop : co l (nu co l - 1) = H := by
    have h1 : φ (co l (nu co l - 1)) = φ (H : Int) := by
      rw [← rd_co P K hp hφ, hrl, mo_0 K, hNl, hmon]; grind
    obtain ⟨w, hw⟩ := (red_eq hφ).mp h1
    have h2 := hl1 (nu co l - 1)
    unfold nz at h2
    have h3 : w = 0 := by
      rcases Int.lt_trichotomy w 0 with q | q | q
      · have := Int.mul_le_mul_of_nonneg_left (show w ≤ -1 by omega) (show (0 : Int) ≤ p by omega)
        omega
      · exact q
      · have := Int.mul_le_mul_of_nonneg_left (show 1 ≤ w by omega) (show (0 : Int) ≤ p by omega)
        omega
    rw [h3] at hw
    omega
  have hscp : 0 < sc co l := by
    have := hsc
    unfold sc at this ⊢
    rw [hltop] at this ⊢
    rw [if_neg (by omega)] at this ⊢
    omega
  have hscH : sc co l ∣ (H : Int) := by
    have := (congrArg (fun x => co x (nu co l - 1)) hlC).trans (mo_0 P _ _ _)
    exact ⟨_, hltop.symm.trans this⟩
  have hd1 := gp_ge P K hp hφ hgA hgB hh
  have hlg : ¬ (p : Int) ∣ co g (nu co g - 1) := fun q => by
    obtain ⟨w, hw⟩ := hgA
    have hw0 : w ≠ 0 := fun z => hA0 ((nu_zero P).mpr (by rw [hw, z]; grind))
    have := lc_dv P (prim_ne P hg) hw0
    rw [← hw] at this
    exact hlA (by rw [this]; exact Int.dvd_mul_of_dvd_left q)
  refine ⟨_, M2, M3, M4, C, e1, e2, e3, e4, hok4, ?_, ?_, r4, fun i => ?_, fun h1 h2 => ?_, fun C0 u0 v0 h1 h2 => ?_, R, T, I, J, ct, φ, K, hp, hφ, ?_⟩
  · exact chJ_mono (chJ_trans hc1 (chJ_trans hc2 (chJ_trans hc3 hc4))) (fun x hx => by simp at hx ⊢; omega)
  · rw [hc4.2 1 0 (by simp; omega), hc3.2 1 0 (by simp; omega)]; exact hm2
  · have h1 := hl1 i
    have h2 := hX4 i
    omega
  · exact gp_test P K hp hφ hc0 he0 hg hg1 hlg hd1 hh0 hCp hC1 (by omega) h1 h2
  · have hd2 := gp_le P K hp hφ h2 h1 hhA hhB
    obtain ⟨wA, hwA⟩ := hgA
    obtain ⟨wB, hwB⟩ := hgB
    have hwA0 : wA ≠ 0 := fun z => hA0 ((nu_zero P).mpr (by rw [hwA, z]; grind))
    have hwB0 : wB ≠ 0 := fun z => hB0 ((nu_zero P).mpr (by rw [hwB, z]; grind))
    have tA := lc_dv P (prim_ne P hg) hwA0
    have tB := lc_dv P (prim_ne P hg) hwB0
    rw [← hwA] at tA
    rw [← hwB] at tB
    have hdH : (co g (nu co g - 1)).natAbs ∣ H := by
      rw [hH]
      exact Nat.dvd_gcd (by rw [tA, Int.natAbs_mul]; exact Nat.dvd_mul_right _ _) (by rw [tB, Int.natAbs_mul]; exact Nat.dvd_mul_right _ _)
    obtain ⟨kk, hkk⟩ := hdH
    have hkk0 : 0 < kk := by
      rcases Nat.eq_zero_or_pos kk with q | q
      · rw [q] at hkk; omega
      · exact q
    have hHe : (H : Int) = co g (nu co g - 1) * kk := by
      rw [hkk, Int.natCast_mul, Int.natAbs_of_nonneg (by omega)]
    have hkd : kk ∣ (co wA (nu co wA - 1)).natAbs := by
      have h3 : H ∣ (co A (nu co A - 1)).natAbs := by rw [hH]; exact Nat.gcd_dvd_left _ _
      rw [tA, Int.natAbs_mul, hkk] at h3
      exact Nat.dvd_of_mul_dvd_mul_left (by omega) h3
    have hnw : nu co wA ≠ 0 := fun q => hwA0 ((nu_zero P).mp q)
    have hkle : kk ≤ (co wA (nu co wA - 1)).natAbs := Nat.le_of_dvd (by have := nu_top P wA hnw; omega) hkd
    have hNm := nu_mul P int_D (prim_ne P hg) hwA0
    rw [← hwA] at hNm
    have hbd : ∀ i, 2 * nz ((kk : Int) * co g i) < p := fun i => by
      have h4 := bomb P (f := g) (g := wA) (by omega) hwA0 (X := 9999) (by omega) (fun k => by rw [← hwA]; exact hXA k) i
      have h5 : nz ((kk : Int) * co g i) ≤ nz (co g i * co wA (nu co wA - 1)) := by
        rw [nz_mul, nz_mul, Int.mul_comm (nz (co g i))]
        exact Int.mul_le_mul_of_nonneg_right (by unfold nz; omega) (nz_nn _)
      omega
    exact gp_lift P K hp hφ (a := A) (w := wA) hg hg1 hlg hd1 hd2 hmon (k := kk) (by omega) hHe hbd hl1 hrl hscp hCp hC1 hlC
  · have hφs : φ (sc co l) ≠ 0 := fun q => by
      have h1 := Int.le_of_dvd hscp ((hφ.2.2.1 _).mp q)
      have h2 := Int.le_of_dvd (by omega) hscH
      omega
    obtain ⟨i, hi⟩ := hF.2 _ hφs
    have e : mo K (φ (sc co l)) 0 * rd P K hp hφ C = mo K (φ (H : Int)) 0 * h := by
      rw [← hrl, ← rd_mo P K hp hφ, ← rd_mul P K hp hφ, ← hlC]
    have e2 : mo K i 0 * mo K (φ (sc co l)) 0 = 1 := by
      refine p_ext K (fun j => ?_)
      rw [mo_0 K, mo_co K, p_one K]
      split
      · rw [← hi]; grind
      · grind
    refine ⟨mo K i 0 * mo K (φ (H : Int)) 0 * u1, mo K i 0 * mo K (φ (H : Int)) 0 * v1, ?_⟩
    have e3 : rd P K hp hφ C = mo K i 0 * (mo K (φ (sc co l)) 0 * rd P K hp hφ C) := by
      have : mo K i 0 * (mo K (φ (sc co l)) 0 * rd P K hp hφ C) = (mo K i 0 * mo K (φ (sc co l)) 0) * rd P K hp hφ C := by grind
      rw [this, e2]; grind
    rw [e3, e, hh]; grind
end MFind
