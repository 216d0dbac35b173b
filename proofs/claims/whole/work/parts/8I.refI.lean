/-! center and primitive, in words of polynomials -/
section MRefI
noncomputable def sc {S : Type} [Lean.Grind.CommRing S] (co : S → Nat → Int) (f : S) : Int := if co f (nu co f - 1) < 0 then -((cg (co f) (nu co f) : Nat) : Int) else (cg (co f) (nu co f) : Nat)
theorem cg_congr {v w : Nat → Int} : ∀ {k : Nat}, (∀ i, i < k → v i = w i) → cg v k = cg w k
  | 0, _ => rfl
  | k + 1, h => by simp only [cg]; rw [cg_congr (fun i hi => h i (by omega)), h k (by omega)]
theorem cg_pos {v : Nat → Int} {k i : Nat} (hi : i < k) (hv : v i ≠ 0) : 0 < cg v k := by
  rcases Nat.eq_zero_or_pos (cg v k) with q | q
  · have := cg_dv (v := v) i hi
    rw [q] at this
    have := Nat.eq_zero_of_zero_dvd this
    omega
  · exact q
theorem sc_dv {S : Type} [Lean.Grind.CommRing S] {co : S → Nat → Int} (P : isPol co) (f : S) (i : Nat) : sc co f ∣ co f i := by
  rcases Nat.lt_or_ge i (nu co f) with q | q
  · have h := cg_dv (v := co f) i q
    have h2 : ((cg (co f) (nu co f) : Nat) : Int) ∣ co f i := Int.ofNat_dvd_left.mpr h
    unfold sc
    split
    · exact Int.neg_dvd.mpr h2
    · exact h2
  · rw [nu_hi P f q]; exact ⟨0, by omega⟩
theorem sc_spec {S : Type} [Lean.Grind.CommRing S] {co : S → Nat → Int} (P : isPol co) {f : S} (h0 : nu co f ≠ 0) : sc co f ≠ 0 ∧ (∃ g, f = mo P (sc co f) 0 * g) ∧ ∀ g, f = mo P (sc co f) 0 * g → prim co g ∧ 0 < co g (nu co g - 1) ∧ nu co g = nu co f ∧ ∀ i, (co f i).tdiv (sc co f) = co g i := by
  have ht := nu_top P f h0
  have hp := cg_pos (v := co f) (k := nu co f) (i := nu co f - 1) (by omega) ht
  have hc : sc co f ≠ 0 := by unfold sc; split <;> omega
  refine ⟨hc, z_quo P (sc_dv P f), fun g hg => ?_⟩
  have hco : ∀ i, co f i = sc co f * co g i := fun i => by
    have := congrArg (fun x => co x i) hg
    exact this.trans (mo_0 P _ _ _)
  have hN : nu co g = nu co f := by
    have := z_N P hc (g := g)
    rw [← hg] at this
    omega
  refine ⟨fun q hq => ?_, ?_, hN, fun i => ?_⟩
  · apply Classical.byContradiction
    intro hno
    have hall : ∀ i, (q : Int) ∣ co g i := fun i => Classical.byContradiction fun h => hno ⟨i, h⟩
    have habs : (sc co f).natAbs = cg (co f) (nu co f) := by unfold sc; split <;> omega
    have hd : q * cg (co f) (nu co f) ∣ cg (co f) (nu co f) := cg_gr (fun i _ => by
      rw [hco i, Int.natAbs_mul, habs, Nat.mul_comm q]
      exact Nat.mul_dvd_mul_left _ (Int.ofNat_dvd_left.mp (hall i)))
    have := Nat.le_of_dvd hp hd
    have h2 := hq.1
    have h3 : 2 * cg (co f) (nu co f) ≤ q * cg (co f) (nu co f) := Nat.mul_le_mul_right _ h2
    omega
  · have h1 := hco (nu co f - 1)
    rw [hN]
    rcases Int.lt_trichotomy (co g (nu co f - 1)) 0 with q | q | q
    · exfalso
      unfold sc at h1
      split at h1
      · rename_i h2
        have := Int.mul_pos_of_neg_of_neg (show -((cg (co f) (nu co f) : Nat) : Int) < 0 by omega) q
        omega
      · rename_i h2
        have := Int.mul_neg_of_pos_of_neg (show 0 < ((cg (co f) (nu co f) : Nat) : Int) by omega) q
        omega
    · rw [q] at h1; omega
    · exact q
  · rw [hco i, Int.mul_tdiv_cancel_left _ hc]
theorem dvM_wr (M : MI) (s : Nat) (c : Int) (j : Nat) {v : Nat → Int} (h : ∀ i, i < j → (wv M s i).tdiv c = v i) : dvM M s c j = wrM M 41 (24 * s) j v := Prod.ext (funext fun k => funext fun i => by
  unfold dvM wrM
  dsimp only
  by_cases z : k = 41 ∧ 24 * s ≤ i ∧ i < 24 * s + j
  · rw [if_pos z, if_pos z, ← h (i - 24 * s) (by omega)]
    show _ = (M.1 41 (24 * s + (i - 24 * s))).tdiv c
    rw [show 24 * s + (i - 24 * s) = i by omega]
  · rw [if_neg z, if_neg z]) rfl
theorem RZ_wr {S : Type} [Lean.Grind.CommRing S] {co : S → Nat → Int} {M : MI} {s : Nat} {g : S} (hN : nu co g ≤ 24) (hd : dg M s = (nu co g : Int) - 1) : RZ co (wrM M 41 (24 * s) (nu co g) (co g)) s g := ⟨hd, fun j hj => by rw [wv_wrM _ _ _ hN _ (by omega), if_pos ⟨rfl, hj⟩]⟩
theorem s_primitive0 {S : Type} [Lean.Grind.CommRing S] {co : S → Nat → Int} {M : MI} (hM : ok M) {s : Nat} (hs : s < 60) {f : S} (hf : RZ co M s f) (h0 : nu co f = 0) {n : Nat} (hn : 18446744073709551616 ≤ n) : f_X8_primitive n s M = some (0, M) := by
  have hd : dg M s = (nu co f : Int) - 1 := hf.1
  rw [s_primitive hM hs (by omega) (fun j hj => by omega) hn, if_pos (by rw [show (dg M s + 1).toNat = 0 by omega]; rfl)]
theorem s_primitiveZ {S : Type} [Lean.Grind.CommRing S] {co : S → Nat → Int} (P : isPol co) {M : MI} (hM : ok M) {s : Nat} (hs : s < 60) {f : S} (hf : RZ co M s f) (hN : nu co f ≤ 24) (h0 : nu co f ≠ 0) (hB : ∀ i, -9223372036854775807 ≤ co f i) {n : Nat} (hn : 18446744073709551616 ≤ n) : ∃ M' g, f_X8_primitive n s M = some (sc co f, M') ∧ ok M' ∧ chg [s] M M' ∧ RZ co M' s g ∧ f = mo P (sc co f) 0 * g ∧ prim co g ∧ 0 < co g (nu co g - 1) ∧ nu co g = nu co f ∧ sc co f ≠ 0 := by
  obtain ⟨hc, ⟨g, hg⟩, hall⟩ := sc_spec P h0
  obtain ⟨g1, g2, g3, g4⟩ := hall g hg
  have hd : dg M s = (nu co f : Int) - 1 := hf.1
  have e1 : (dg M s + 1).toNat = nu co f := by omega
  have e2 : (dg M s).toNat = nu co f - 1 := by omega
  have e3 : cg (wv M s) (nu co f) = cg (co f) (nu co f) := cg_congr (fun i hi => hf.2 i hi)
  have ht := nu_top P f h0
  have hp := cg_pos (v := co f) (k := nu co f) (i := nu co f - 1) (by omega) ht
  have e4 : wv M s (nu co f - 1) = co f (nu co f - 1) := hf.2 _ (by omega)
  have e5 : (if wv M s (nu co f - 1) < 0 then -((cg (co f) (nu co f) : Nat) : Int) else (cg (co f) (nu co f) : Nat)) = sc co f := by rw [e4]; rfl
  have e6 : dvM M s (sc co f) (nu co f) = wrM M 41 (24 * s) (nu co f) (co g) := dvM_wr M s _ _ (fun i hi => by rw [hf.2 i hi, g4 i])
  refine ⟨wrM M 41 (24 * s) (nu co f) (co g), g, ?_, ok_wrM hM (fun i hi => ?_), chg_wrM M s _ hN _, by rw [← g3]; exact RZ_wr (by omega) (by omega), hg, g1, g2, g3, hc⟩
  · rw [s_primitive hM hs (by omega) (fun j hj => by rw [hf.2 j (by omega)]; exact hB j) hn, e1, e2, e3, if_neg (by omega), e5, e6]
  · have h1 := hM.1 41 (24 * s + i)
    have h2 : M.1 41 (24 * s + i) = co f i := hf.2 i hi
    have h3 := hB i
    rw [← g4 i]
    have h4 : ((co f i).tdiv (sc co f)).natAbs ≤ (co f i).natAbs := by rw [Int.natAbs_tdiv]; exact Nat.div_le_self _ _
    omega
theorem wrM_same {M : MI} {a lo j : Nat} {v : Nat → Int} (h : M.1 a (lo + j) = v j) : wrM M a lo j v = wrM M a lo (j + 1) v := Prod.ext (funext fun k => funext fun i => by
  rw [wrM_1, wrM_1]
  by_cases z : k = a ∧ lo ≤ i ∧ i < lo + j
  · rw [if_pos z, if_pos (by omega)]
  · rw [if_neg z]
    by_cases z2 : k = a ∧ i = lo + j
    · rw [if_pos (by omega), z2.1, z2.2, h, show lo + j - lo = j by omega]
    · rw [if_neg (by omega)]) rfl
theorem s_center {S T R : Type} [Lean.Grind.CommRing S] [Lean.Grind.CommRing T] [Lean.Grind.CommRing R] {co : S → Nat → Int} (P : isPol co) {ct : T → Nat → R} (K : isPol ct) {p : Nat} (hp : isZp R p) {φ : Int → R} (hφ : isRed φ p) {M : MI} (hM : ok M) {s : Nat} (hs : s < 60) (hm : M.1 36 9 = p) (hm2 : p ≤ 1000000000000) (hod : p % 2 = 1) {f : T} (hf : RP ct φ p M s f) (hN : nu ct f ≤ 24) {n : Nat} (hn : 18446744073709551616 ≤ n) : ∃ M' l, f_X8_center n s M = some M' ∧ ok M' ∧ chg [s] M M' ∧ RZ co M' s l ∧ rd P K hp hφ l = f ∧ (∀ i, 2 * nz (co l i) < p) ∧ nu co l = nu ct f := by
  have hd : dg M s = (nu ct f : Int) - 1 := hf.1
  obtain ⟨l, hl⟩ := P.2.2.2.2.1 (fun i => if i < nu ct f then (if wv M s i ≤ (p : Int) / 2 then wv M s i else wv M s i - p) else 0) (nu ct f) (fun i hi => if_neg (by omega))
  have hl1 : ∀ i, i < nu ct f → co l i = if wv M s i ≤ (p : Int) / 2 then wv M s i else wv M s i - p := fun i hi => by rw [hl i, if_pos hi]
  have hl2 : ∀ i, nu ct f ≤ i → co l i = 0 := fun i hi => by rw [hl i, if_neg (by omega)]
  have hrd : rd P K hp hφ l = f := p_ext K (fun i => by
    rw [rd_co P K hp hφ]
    rcases Nat.lt_or_ge i (nu ct f) with q | q
    · rw [hl1 i q, ← (hf.2 i q).2.2]
      split
      · rfl
      · rw [red_sub hφ, (hφ.2.2.1 (p : Int)).mpr ⟨1, by omega⟩]; grind
    · rw [hl2 i q, nu_hi K f q]; exact red_zero hφ)
  have hnz : ∀ i, 2 * nz (co l i) < p := fun i => by
    rcases Nat.lt_or_ge i (nu ct f) with q | q
    · obtain ⟨w1, w2, -⟩ := hf.2 i q
      rw [hl1 i q]
      unfold nz
      split <;> omega
    · rw [hl2 i q]; have := hp.1.1; unfold nz; omega
  have hNl : nu co l = nu ct f := nu_eq P hl2 (fun h0 q => nu_top K f h0 (by rw [← hrd, rd_co P K hp hφ, hrd, q]; exact red_zero hφ))
  have hL : lpF (l_X8_center_2 s) n (M, 0) = some (wrM M 41 (24 * s) (nu ct f) (co l)) := by
    have e := lp_for (step := l_X8_center_2 s) (fun k => (wrM M 41 (24 * s) k (co l), (k : Int))) (wrM M 41 (24 * s) (nu ct f) (co l)) (nu ct f) n (fun k hk => by
      obtain ⟨w1, w2, -⟩ := hf.2 k hk
      have hw : (wrM M 41 (24 * s) k (co l)).1 41 (24 * s + k) = wv M s k := by rw [wrM_1, if_neg (by omega)]
      have hm' : (wrM M 41 (24 * s) k (co l)).1 36 9 = p := by rw [wrM_1, if_neg (by omega), hm]
      have hq : oqJ (p : Int) 2 = some ((p : Int) / 2) := by
        unfold oqJ
        rw [if_pos ⟨by omega, by omega, by omega, by omega⟩, Int.tdiv_eq_ediv_of_nonneg (by omega)]
      unfold l_X8_center_2
      dsimp only
      rw [odI_n s rfl rfl (by rw [k42.2]; exact hs), bs, show (wrM M 41 (24 * s) k (co l)).2 42 s = (nu ct f : Int) - 1 from hd, gI_s (by omega) (by omega), bs, if_neg (by omega), odJ_n (24 * s + k) rfl (by omega) (by rw [k41.2]; omega), bs, hw, hm', hq, bs, gJ_s (by omega) (by omega), bs]
      by_cases z : wv M s k ≤ (p : Int) / 2
      · rw [if_pos z, bs]
        rw [wrM_same (j := k) (by rw [hl1 k hk, if_pos z])]
        rfl
      · rw [if_neg z, bs, osJ_n (24 * s + k) rfl (by omega) (by rw [k41.2]; omega), bs]
        have e9 : wv M s k - p = co l k := by rw [hl1 k hk, if_neg z]
        rw [e9, bs, wrM_s]
        rfl) (by
      unfold l_X8_center_2
      dsimp only
      rw [odI_n s rfl rfl (by rw [k42.2]; exact hs), bs, show (wrM M 41 (24 * s) (nu ct f) (co l)).2 42 s = (nu ct f : Int) - 1 from hd, gI_s (by omega) (by omega), bs, if_pos (by omega)]) (by omega)
    rw [wrM_0] at e
    exact e
  refine ⟨_, l, ?_, ok_wrM hM (fun i hi => ?_), chg_wrM M s _ hN _, by rw [← hNl]; exact RZ_wr (by omega) (by omega), hrd, hnz, hNl⟩
  · unfold f_X8_center
    rw [hL, bs]
  · have := hnz i
    unfold nz at this
    omega
end MRefI
