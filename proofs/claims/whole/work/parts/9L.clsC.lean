/-! the class's factorizer: add, tailFits, divides -/
section MClsC
def chF (As : List Nat) (M M' : MI) : Prop := (∀ k i, k ∉ As → M'.1 k i = M.1 k i) ∧ (∀ k i, k ≠ 27 → ¬ (k = 5 ∧ i = 2) → M'.2 k i = M.2 k i)
theorem chF_refl (As : List Nat) (M : MI) : chF As M M := ⟨fun _ _ _ => rfl, fun _ _ _ _ => rfl⟩
theorem chF_trans {As Bs : List Nat} {M M' M'' : MI} (h : chF As M M') (h1 : chF Bs M' M'') : chF (As ++ Bs) M M'' := ⟨fun k i hk => by
  simp only [List.mem_append, not_or] at hk
  exact (h1.1 k i hk.2).trans (h.1 k i hk.1), fun k i a b => (h1.2 k i a b).trans (h.2 k i a b)⟩
theorem chF_mono {As Bs : List Nat} {M M' : MI} (h : chF As M M') (hs : ∀ x ∈ As, x ∈ Bs) : chF Bs M M' := ⟨fun k i hk => h.1 k i (fun z => hk (hs k z)), h.2⟩
theorem chF_of {As : List Nat} {M M' : MI} (h : chJ As M M') : chF As M M' := ⟨h.2, fun k i _ _ => by rw [h.1]⟩
theorem CZ_chF {S : Type} [Lean.Grind.CommRing S] {co : S → Nat → Int} {M M' : MI} {a : Nat} {f : S} {As : List Nat} (h : CZ co M a f) (hc : chF As M M') (ha : a ∉ As) : CZ co M' a f := ⟨fun i hi => by rw [hc.1 a i ha]; exact h.1 i hi, h.2⟩
theorem CP_chF {R T : Type} [Lean.Grind.CommRing R] [Lean.Grind.CommRing T] {ct : T → Nat → R} {φ : Int → R} {p : Nat} {M M' : MI} {a : Nat} {f : T} {As : List Nat} (h : CP ct φ p M a f) (hc : chF As M M') (ha : a ∉ As) : CP ct φ p M' a f := ⟨fun i hi => by rw [hc.1 a i ha]; exact h.1 i hi, h.2⟩
/-- the found factors and their rows -/
def FRc {S : Type} [Lean.Grind.CommRing S] (co : S → Nat → Int) (M : MI) (k : Nat) (fo : Nat → S) : Prop := M.2 5 2 = k ∧ ∀ i, i < k → CZ co M (159 + i) (fo i)
def FND : List Nat := [159, 160, 161, 162, 163, 164, 165, 166, 167, 168]
theorem c_add {S : Type} [Lean.Grind.CommRing S] {co : S → Nat → Int} (P : isPol co) {M : MI} (hM : ok M) {a : Nat} (ha : row a) (ha2 : ¬ (159 ≤ a ∧ a < 169)) {k : Nat} (hk : k < 10) {fo : Nat → S} (hFR : FRc co M k fo) (hso : ∀ x y, x < y → y < k → ltz co (fo x) (fo y)) {f : S} (hf : CZ co M a f) (hne : ∀ i, i < k → fo i ≠ f) {n : Nat} (hn : 18446744073709551616 ≤ n) :
    ∃ (M' : MI) (j : Nat), f_X2_add n a M = some M' ∧ ok M' ∧ chF FND M M' ∧ j ≤ k ∧ FRc co M' (k + 1) (ins fo j f) ∧ (∀ x y, x < y → y < k + 1 → ltz co (ins fo j f x) (ins fo j f y)) ∧ (∀ i, M'.2 27 i = M.2 27 i) := by
  have rw' : ∀ i, i < 10 → row (159 + i) := fun i hi => row_i (by omega)
  obtain ⟨⟨M9, ji⟩, hL, j, hj, h1, h2, h3, h4, h5, h6, h7⟩ := lp_do (step := l_X2_add_15 n a) (fun st => ∃ j : Nat, st.2 = j ∧ ok st.1 ∧ st.1.2 = M.2 ∧ (∀ q i, q ∉ FND → st.1.1 q i = M.1 q i) ∧ j ≤ k ∧ (∀ i, i < j → CZ co st.1 (159 + i) (fo i)) ∧ (∀ i, j ≤ i → i < k → CZ co st.1 (159 + (i + 1)) (fo i)) ∧ ∀ i, j ≤ i → i < k → ltz co f (fo i)) (fun st => st.2.toNat) (fun r => ∃ j : Nat, r.2 = j ∧ ok r.1 ∧ r.1.2 = M.2 ∧ (∀ q i, q ∉ FND → r.1.1 q i = M.1 q i) ∧ j ≤ k ∧ (∀ i, i < j → CZ co r.1 (159 + i) (fo i)) ∧ (∀ i, j ≤ i → i < k → CZ co r.1 (159 + (i + 1)) (fo i)) ∧ (∀ i, j ≤ i → i < k → ltz co f (fo i)) ∧ ∀ i, i < j → ltz co (fo i) f) (fun st hst => by
    obtain ⟨M1, y⟩ := st
    obtain ⟨j, hy, a1, a2, a3, a4, a5, a6, a7⟩ := hst
    dsimp only at hy a1 a2 a3 a5 a6
    subst hy
    unfold l_X2_add_15
    dsimp only
    rw [gI_s (by omega) (by omega), bs]
    by_cases h0 : (j : Int) ≤ 0
    · rw [if_pos h0]
      exact Or.inl ⟨_, rfl, j, rfl, a1, a2, a3, a4, a5, a6, a7, fun i hi => by omega⟩
    · have cf1 : CZ co M1 a f := ⟨fun i hi => by rw [a3 a i (by simp [FND]; omega)]; exact hf.1 i hi, hf.2⟩
      have cj := a5 (j - 1) (by omega)
      rw [if_neg h0, oA26 (k := j - 1) (by omega) (by omega), bs]
      rcases c_isBefore P a1 ha (rw' (j - 1) (by omega)) cf1 cj hn with ⟨hlt, eb⟩ | ⟨hnlt, eb⟩
      · obtain ⟨M2, e2, hok2, hc2, c2⟩ := c_copyZ a1 (rw' (j - 1) (by omega)) (rw' j (by omega)) cj
        rw [eb, bs, gI_s (by omega) (by omega), bs, if_neg (by omega), bs, oA26 rfl (by omega), bs, e2, bs]
        refine Or.inr ⟨_, rfl, ⟨j - 1, by dsimp only; omega, hok2, hc2.1.trans a2, fun q i hq => ?_, by omega, fun i hi => ?_, fun i hi1 hi2 => ?_, fun i hi1 hi2 => ?_⟩, by dsimp only; omega⟩
        · dsimp only
          rw [hc2.2 q i (by simp [FND] at hq ⊢; omega)]; exact a3 q i hq
        · exact CZ_ch (a5 i (by omega)) hc2 (by simp; omega)
        · dsimp only
          by_cases z : i = j - 1
          · rw [z, show j - 1 + 1 = j by omega]; exact c2
          · exact CZ_ch (a6 i (by omega) hi2) hc2 (by simp; omega)
        · by_cases z : i = j - 1
          · rw [z]; exact hlt
          · exact a7 i (by omega) hi2
      · rw [eb, bs, gI_s (by omega) (by omega), bs, if_pos rfl]
        have hl : ltz co (fo (j - 1)) f := by
          rcases ltz_tri P (hne (j - 1) (by omega)) with z | z
          · exact z
          · exact absurd z hnlt
        refine Or.inl ⟨_, rfl, j, rfl, a1, a2, a3, a4, a5, a6, a7, fun i hi => ?_⟩
        rcases Nat.lt_or_ge i (j - 1) with z | z
        · exact ltz_trans (hso i (j - 1) z (by omega)) hl
        · rw [show i = j - 1 by omega]; exact hl) n (M, (k : Int)) ⟨k, rfl, hM, rfl, fun _ _ _ => rfl, Nat.le_refl _, fun i hi => hFR.2 i hi, fun i h1 h2 => absurd h1 (by omega), fun i h1 h2 => absurd h1 (by omega)⟩ (by dsimp only; omega)
  dsimp only at hj h1 h2 h3 h5 h6
  subst hj
  have cf9 : CZ co M9 a f := ⟨fun i hi => by rw [h3 a i (by simp [FND]; omega)]; exact hf.1 i hi, hf.2⟩
  obtain ⟨M12, e12, hok12, hc12, c12⟩ := c_copyZ h1 ha (rw' j (by omega)) cf9
  have h122 : M12.2 = M.2 := hc12.1.trans h2
  refine ⟨oI M12 5 2 ((k : Int) + 1), j, ?_, ok_oI hok12 (by omega), ⟨fun q i hq => ?_, fun q i _ hq => ?_⟩, h4, ⟨by rw [oI_2, if_pos ⟨rfl, rfl⟩]; omega, fun i hi => ?_⟩, ins_so h4 hso h7.2 h7.1, fun i => by rw [oI_2, if_neg (by omega), h122]⟩
  · unfold f_X2_add
    rw [hFR.1, gI_s (by omega) (by omega), bs, if_pos (by omega), hL, bs]
    dsimp only
    rw [oA26 rfl (by omega), bs, e12, bs, h122, hFR.1]
    rfl
  · rw [oI_1, hc12.2 q i (by simp [FND] at hq ⊢; omega)]; exact h3 q i hq
  · rw [oI_2, if_neg hq, h122]
  · show CZ co M12 (159 + i) _
    rcases Nat.lt_trichotomy i j with z | z | z
    · rw [ins_lo fo f z]; exact CZ_ch (h5 i z) hc12 (by simp; omega)
    · rw [z, ins_at]; exact c12
    · rw [ins_hi fo f z]
      have := h6 (i - 1) (by omega) (by omega)
      rw [show i - 1 + 1 = i by omega] at this
      exact CZ_ch this hc12 (by simp; omega)
theorem ctr_ex {S T R : Type} [Lean.Grind.CommRing S] [Lean.Grind.CommRing T] [Lean.Grind.CommRing R] {co : S → Nat → Int} (P : isPol co) {ct : T → Nat → R} (K : isPol ct) {p : Nat} (hp : isZp R p) {φ : Int → R} (hφ : isRed φ p) (hod : p % 2 = 1) (t : T) : ∃ l : S, rd P K hp hφ l = t ∧ (∀ i, 2 * nz (co l i) < p) ∧ nu co l ≤ nu ct t := by
  have h1 : ∀ x : R, ∃ z : Int, 2 * nz z < p ∧ φ z = x := fun x => by
    obtain ⟨m, hm, e⟩ := hp.2.2.2.1 x
    refine ⟨(if (m : Int) % p ≤ (p : Int) / 2 then (m : Int) % p else (m : Int) % p - p), near_ok hod m, ?_⟩
    rw [near_red hφ, red_nt hφ, e]
  obtain ⟨l, hl⟩ := P.2.2.2.2.1 (fun i => if i < nu ct t then Classical.choose (h1 (ct t i)) else 0) (nu ct t) (fun i hi => if_neg (by omega))
  refine ⟨l, p_ext K (fun i => ?_), fun i => ?_, nu_le P (fun i hi => by rw [hl i, if_neg (by omega)])⟩
  · rw [rd_co P K hp hφ, hl i]
    by_cases z : i < nu ct t
    · rw [if_pos z]; exact (Classical.choose_spec (h1 (ct t i))).2
    · rw [if_neg z, nu_hi K t (by omega)]; exact red_zero hφ
  · rw [hl i]
    split
    · exact (Classical.choose_spec (h1 (ct t i))).1
    · have := hp.1.1
      unfold nz; omega
theorem ctr_uq {R : Type} [Lean.Grind.CommRing R] {p : Nat} {φ : Int → R} (hφ : isRed φ p) {x y : Int} (hx : 2 * nz x < p) (hy : 2 * nz y < p) (h : φ x = φ y) : x = y := by
  obtain ⟨w, hw⟩ := (red_eq hφ).mp h
  unfold nz at hx hy
  have h3 : w = 0 := by
    rcases Int.lt_trichotomy w 0 with q | q | q
    · have := Int.mul_le_mul_of_nonneg_left (show w ≤ -1 by omega) (show (0 : Int) ≤ p by omega)
      omega
    · exact q
    · have := Int.mul_le_mul_of_nonneg_left (show 1 ≤ w by omega) (show (0 : Int) ≤ p by omega)
      omega
  rw [h3] at hw
  omega
theorem pm_co0 {R T : Type} [Lean.Grind.CommRing R] [Lean.Grind.CommRing T] {ct : T → Nat → R} (K : isPol ct) (f g : T) : ct (f * g) 0 = ct f 0 * ct g 0 := by
  rw [p_mul K]
  simp only [sm]
  grind
theorem c_tailFits {S T R : Type} [Lean.Grind.CommRing S] [Lean.Grind.CommRing T] [Lean.Grind.CommRing R] {co : S → Nat → Int} (P : isPol co) {ct : T → Nat → R} (K : isPol ct) {p : Nat} (hp : isZp R p) {φ : Int → R} (hφ : isRed φ p) (hp2 : p ≤ 100000000) (hod : p % 2 = 1) {M : MI} (hM : ok M) (hmp : M.1 1 0 = p) {m : Nat} (hm10 : m ≤ 10) {q : Nat → T} (hPC : PCc ct φ p M m q) {set : Nat} (hset : set < 1024) {rest : S} (c28 : CZ co M 28 rest) (hr0 : rest ≠ 0) (hlp : 0 < co rest (nu co rest - 1)) (hl2 : 2 * co rest (nu co rest - 1) < p) (hX0 : nz (co rest 0) ≤ 10000000) (hlr : ¬ (p : Int) ∣ co rest (nu co rest - 1)) (hmon : ct (pm q (tb set) m) (nu ct (pm q (tb set) m) - 1) = 1) {B : Int} (hB : ∀ (g h : S) (i : Nat), rest = g * h → nz (co g i * co h (nu co h - 1)) ≤ B) (hBp : 2 * B < p) {n : Nat} (hn : 18446744073709551616 ≤ n) :
    ∃ r, f_X2_tailFits n set (co rest (nu co rest - 1)) M = some r ∧ (r = 0 ∨ r = 1) ∧ (r = 0 → ∀ g, ¬ fac P K hp hφ q m rest (tb set) g) := by
  have hp1 := hp.1.1
  have hF := hp.2.2.1
  obtain ⟨h, hh⟩ : ∃ h, co rest (nu co rest - 1) = h := ⟨_, rfl⟩
  have hhb : 0 < h ∧ 2 * h < p := by rw [hh] at hlp hl2; exact ⟨hlp, hl2⟩
  obtain ⟨tl, hL, t0, t1, tφ⟩ := lp_do (step := l_X2_tailFits_6 set M) (fun st => ∃ k : Nat, st.2 = k ∧ k ≤ m ∧ 0 ≤ st.1 ∧ st.1 < p ∧ φ st.1 = φ h * ct (pm q (tb set) k) 0) (fun st => (20 - st.2).toNat) (fun tl => 0 ≤ tl ∧ tl < p ∧ φ tl = φ h * ct (pm q (tb set) m) 0) (fun st hst => by
    obtain ⟨v1, y⟩ := st
    obtain ⟨k, hy, hk, h0, h1, hφv⟩ := hst
    dsimp only at hy h0 h1 hφv
    subst hy
    unfold l_X2_tailFits_6
    dsimp only
    rw [hPC.1, gI_s (by omega) (by omega), bs]
    by_cases hle : (m : Int) ≤ k
    · rw [if_pos hle]
      have e : k = m := by omega
      subst e
      exact Or.inl ⟨_, rfl, h0, h1, hφv⟩
    · have hpms : pm q (tb set) (k + 1) = pm q (tb set) k * (if tb set k then q k else 1) := rfl
      have rk : row (129 + k) := row_i (by omega)
      rw [if_neg hle, obit hset (by omega)]
      by_cases hb : set.testBit k = true
      · have hb' : tb set k = true := hb
        rw [hb', if_pos rfl] at hpms
        obtain ⟨x1, x2, x3⟩ := (hPC.2 k (by omega)).1.1 0 (by omega)
        have hb0 : 0 ≤ v1 * M.1 (129 + k) 0 := Int.mul_nonneg h0 x1
        have hb1 : v1 * M.1 (129 + k) 0 ≤ 100000000 * 100000000 := Int.mul_le_mul (by omega) (by omega) x1 (by omega)
        have eo : orJ (v1 * M.1 (129 + k) 0) p = some (v1 * M.1 (129 + k) 0 % p) := by
          unfold orJ
          rw [if_pos ⟨by omega, by omega, by omega, by omega⟩, tmod_nn hb0]
        rw [if_pos hb, gI_s (by omega) (by omega), bs, if_pos rfl, oA20 rfl (by omega), bs, odJ_n (i := 0) 0 rk.1 rfl (by rw [rk.2]; omega), bs, hmp, eo, bs, bs]
        refine Or.inr ⟨_, rfl, ⟨k + 1, by dsimp only; omega, by omega, Int.emod_nonneg _ (by omega), Int.emod_lt_of_pos _ (by omega), ?_⟩, by dsimp only; omega⟩
        dsimp only
        rw [red_md hφ, hφ.2.1, hφv, x3, hpms, pm_co0 K]; grind
      · have hb' : tb set k = false := by unfold tb; simpa using hb
        rw [hb', if_neg (by decide)] at hpms
        rw [if_neg hb, gI_s (by omega) (by omega), bs, if_neg (by omega), bs]
        refine Or.inr ⟨_, rfl, ⟨k + 1, by dsimp only; omega, by omega, h0, h1, ?_⟩, by dsimp only; omega⟩
        dsimp only
        rw [hφv, hpms, show pm q (tb set) k * 1 = pm q (tb set) k by grind]) n (h, 0) ⟨0, rfl, by omega, by dsimp only; omega, by dsimp only; omega, by
      have : pm q (tb set) 0 = 1 := rfl
      dsimp only
      rw [this, p_one K, if_pos rfl]; grind⟩ (by dsimp only; omega)
  obtain ⟨tc, htc⟩ : ∃ tc, (if tl % p ≤ (p : Int) / 2 then tl % p else tl % p - p) = tc := ⟨_, rfl⟩
  have htc1 : 2 * nz tc < p := by rw [← htc]; exact near_ok hod tl
  have htc2 : φ tc = φ h * ct (pm q (tb set) m) 0 := by rw [← htc, near_red hφ]; exact tφ
  have e10 : f_X3_nearest tl M = some tc := by rw [c_nearest hp1 hp2 hmp (by omega), htc]
  have e28 : odJ M 28 0 = some (co rest 0) := by rw [odJ_n (k := 28) (i := 0) 0 rfl rfl (show 0 < 11 by omega), c28.1 0 (by omega)]
  have hx0 := nz_le.mp hX0
  have htcb := nz_le.mp (Int.le_of_lt (show nz tc < p by have := nz_nn tc; omega))
  -- a factor's tail fits
  have hnec : ∀ g, fac P K hp hφ q m rest (tb set) g → ∃ w, h * co rest 0 = tc * w ∧ (tc = 0 → co rest 0 = 0) := fun g hg => by
    obtain ⟨g1, g2, ⟨y, hy⟩, c, hc, g4⟩ := id hg
    obtain ⟨l, hl2, hl1, hlN⟩ := ctr_ex P K hp hφ hod (mo K (φ h) 0 * pm q (tb set) m)
    have hpm0 : pm q (tb set) m ≠ 0 := fun z => by
      rw [z, p_zero K] at hmon
      exact hF.1 hmon.symm
    have hhne : φ h ≠ 0 := fun z => hlr (by rw [hh]; exact (hφ.2.2.1 h).mp z)
    have hmoN := nu_mul K (isF_D hF) (a := mo K (φ h) 0) (b := pm q (tb set) m) (fun z => by have := mo_N K (k := 0) hhne; rw [(nu_zero K).mpr z] at this; omega) hpm0
    rw [mo_N K 0 hhne] at hmoN
    have hl0 : nu co l ≠ 0 := fun z => by
      have : l = 0 := (nu_zero P).mp z
      have h5 : rd P K hp hφ l = 0 := p_ext K (fun i => by rw [rd_co P K hp hφ, this, p_zero P, p_zero K]; exact red_zero hφ)
      rw [h5] at hl2
      have h6 : nu ct (mo K (φ h) 0 * pm q (tb set) m) = 0 := (nu_zero K).mpr hl2.symm
      have : nu ct (pm q (tb set) m) ≠ 0 := fun z => hpm0 ((nu_zero K).mp z)
      omega
    have hNl : nu co l = nu ct (pm q (tb set) m) := by
      have h5 : nu ct (rd P K hp hφ l) ≤ nu co l := nu_le K (fun i hi => by rw [rd_co P K hp hφ, nu_hi P l hi]; exact red_zero hφ)
      rw [hl2] at h5
      omega
    have hltop : co l (nu co l - 1) = h := ctr_uq hφ (hl1 _) (by unfold nz; omega) (by
      rw [← rd_co P K hp hφ, hl2, mo_0 K, hNl, hmon]; grind)
    obtain ⟨hsc, ⟨C, hC⟩, hall⟩ := sc_spec P hl0
    obtain ⟨C1, C2, C3, C4⟩ := hall C hC
    have hscp : 0 < sc co l := by
      have := hsc
      unfold sc at this ⊢
      rw [hltop] at this ⊢
      rw [if_neg (by rw [hh] at hlp; omega)] at this ⊢
      omega
    have hCg := fac_lift P K hp hφ hr0 hlr hlp hmon hg (B := B) (fun y i e => hB g y i e) hBp hl1 (by rw [hh]; exact hl2) hscp C1 C2 hC
    rw [hCg] at hC
    have hlc : ∀ i, co l i = sc co l * co g i := fun i => (congrArg (fun x => co x i) hC).trans (mo_0 P _ _ _)
    have hy0 : y ≠ 0 := fun z => hr0 (by rw [hy, z]; grind)
    have hlcr := lc_dv P (prim_ne P g1) hy0
    rw [← hy, hh] at hlcr
    have hsy : sc co l = co y (nu co y - 1) := by
      have h5 := hlc (nu co l - 1)
      rw [hltop, C3.symm, hCg, hlcr, Int.mul_comm (sc co l)] at h5
      exact (Int.eq_of_mul_eq_mul_left (by omega) h5).symm
    have htl : tc = co l 0 := ctr_uq hφ htc1 (hl1 0) (by rw [htc2, ← rd_co P K hp hφ, hl2, mo_0 K])
    have hr00 : co rest 0 = co g 0 * co y 0 := by
      have := pm_co0 P g y
      rw [← hy] at this
      exact this
    refine ⟨co g (nu co g - 1) * co y 0, ?_, fun z => ?_⟩
    · rw [htl, hlc 0, hsy, hr00, hlcr]; grind
    · rw [htl, hlc 0] at z
      rcases Int.mul_eq_zero.mp z with w | w
      · exact absurd w hsc
      · rw [hr00, w]; omega
  by_cases z : tc = 0
  · refine ⟨(if co rest 0 = 0 then 1 else 0), ?_, by split <;> omega, fun hr g hg => ?_⟩
    · unfold f_X2_tailFits
      rw [hh, hL, bs, e10, bs, gJ_s (by omega) (by omega), bs, if_pos z, e28, bs, gJ_s (by omega) (by omega), bs]
      split <;> rfl
    · obtain ⟨w, -, h2⟩ := hnec g hg
      rw [if_pos (h2 z)] at hr
      omega
  · have hb1 : nz (h * co rest 0) ≤ 100000000 * 10000000 := nz_mul_le (by rw [nz_le]; omega) hX0
    rw [nz_le] at hb1
    have eo : orJ (h * co rest 0) tc = some ((h * co rest 0).tmod tc) := by
      unfold orJ
      rw [if_pos ⟨by omega, by omega, z, by omega⟩]
    have hmb : ((h * co rest 0).tmod tc).natAbs ≤ (h * co rest 0).natAbs := by rw [Int.natAbs_tmod]; exact Nat.mod_le _ _
    refine ⟨(if (h * co rest 0).tmod tc = 0 then 1 else 0), ?_, by split <;> omega, fun hr g hg => ?_⟩
    · unfold f_X2_tailFits
      rw [hh, hL, bs, e10, bs, gJ_s (by omega) (by omega), bs, if_neg z, e28, bs, eo, bs, gJ_s (by omega) (by omega), bs]
      split <;> rfl
    · obtain ⟨w, h1, -⟩ := hnec g hg
      rw [h1, Int.mul_tmod_right, if_pos rfl] at hr
      omega
end MClsC
