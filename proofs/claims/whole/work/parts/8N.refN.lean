/-! commonWhole: the greatest common divisor over the whole numbers -/
section MRefN
def isG {S : Type} [Lean.Grind.CommRing S] {co : S → Nat → Int} (P : isPol co) (A B g : S) : Prop := prim co g ∧ 0 < co g (nu co g - 1) ∧ dv g A ∧ dv g B ∧ ∃ (c : Int) (u v : S), c ≠ 0 ∧ mo P c 0 * g = u * A + v * B
theorem isG_symm {S : Type} [Lean.Grind.CommRing S] {co : S → Nat → Int} (P : isPol co) {A B g : S} (h : isG P A B g) : isG P B A g := by
  obtain ⟨h1, h2, h3, h4, c, u, v, h5, h6⟩ := h
  exact ⟨h1, h2, h4, h3, c, v, u, h5, by rw [h6]; grind⟩
theorem dv_sgn {S : Type} [Lean.Grind.CommRing S] {e x y : S} (he : e = 1 ∨ e = -1) (h : dv x y) : dv (e * x) y := by
  obtain ⟨w, hw⟩ := h
  rcases he with q | q
  · exact ⟨w, by rw [q, hw]; grind⟩
  · exact ⟨-w, by rw [q, hw]; grind⟩
theorem prim_sgn {S : Type} [Lean.Grind.CommRing S] {co : S → Nat → Int} (P : isPol co) {e x : S} (he : e = 1 ∨ e = -1) (h : prim co x) : prim co (e * x) := by
  rcases he with q | q
  · rw [q, show (1 : S) * x = x by grind]; exact h
  · rw [q, show (-1 : S) * x = -x by grind]
    intro r hr
    obtain ⟨i, hi⟩ := h r hr
    exact ⟨i, fun h => hi (by rw [p_neg P] at h; exact Int.dvd_neg.mp h)⟩
theorem isG_ex {S : Type} [Lean.Grind.CommRing S] {co : S → Nat → Int} (P : isPol co) {A : S} (B : S) (hA : A ≠ 0) : ∃ g, isG P A B g := by
  obtain ⟨g, u, v, c, h1, h2, h3, h4, h5⟩ := z_gcd P (b := B) hA
  obtain ⟨e, he, h6, h7⟩ := z_sgn P (prim_ne P h1)
  refine ⟨e * g, prim_sgn P he h1, h6, dv_sgn he h2, dv_sgn he h3, c, e * u, e * v, h4, ?_⟩
  have : e * (mo P c 0 * g) = e * (u * A + v * B) := by rw [h5]
  grind
theorem prim_dd {S : Type} [Lean.Grind.CommRing S] {co : S → Nat → Int} (P : isPol co) {g h : S} (hg : prim co g) (hg1 : 0 < co g (nu co g - 1)) (hh : prim co h) (hh1 : 0 < co h (nu co h - 1)) (h1 : dv g h) (h2 : dv h g) : g = h := by
  obtain ⟨w, hw⟩ := h1
  obtain ⟨y, hy⟩ := h2
  have hw0 : w ≠ 0 := fun z => prim_ne P hh (by rw [hw, z]; grind)
  have hy0 : y ≠ 0 := fun z => prim_ne P hg (by rw [hy, z]; grind)
  have n1 := nu_mul P int_D (prim_ne P hg) hw0
  have n2 := nu_mul P int_D (prim_ne P hh) hy0
  rw [← hw] at n1
  rw [← hy] at n2
  have nw : nu co w ≠ 0 := fun q => hw0 ((nu_zero P).mp q)
  have ny : nu co y ≠ 0 := fun q => hy0 ((nu_zero P).mp q)
  have pw : prim co w := prim_dv P hh ⟨g, by rw [hw]; grind⟩
  rcases prim_c P pw (by omega) with q | q
  · rw [hw, q]; grind
  · exfalso
    have e : h = -g := by rw [hw, q]; grind
    have n3 : nu co h = nu co g := by omega
    rw [e, p_neg P, ← e, n3] at hh1
    omega
theorem isG_uq {S : Type} [Lean.Grind.CommRing S] {co : S → Nat → Int} (P : isPol co) {A B g h : S} (hg : isG P A B g) (hh : isG P A B h) : g = h := by
  obtain ⟨h1, h2, h3, h4, c, u, v, h5, h6⟩ := hg
  obtain ⟨k1, k2, k3, k4, d, x, y, k5, k6⟩ := hh
  exact prim_dd P h1 h2 k1 k2 (z_gcd_dv P k5 k6 h1 h3 h4) (z_gcd_dv P h5 h6 k1 k3 k4)
theorem bomb_dv {S : Type} [Lean.Grind.CommRing S] {co : S → Nat → Int} (P : isPol co) {A g w : S} (hA0 : nu co A ≠ 0) (hNA : nu co A ≤ 11) {X : Int} (hX0 : 0 ≤ X) (hX : ∀ i, nz (co A i) ≤ X) (h : A = g * w) : (∀ i, nz (co g i) ≤ 98 * X) ∧ (∀ i, nz (co w i) ≤ 98 * X) := by
  have hg0 : g ≠ 0 := fun z => hA0 ((nu_zero P).mpr (by rw [h, z]; grind))
  have hw0 : w ≠ 0 := fun z => hA0 ((nu_zero P).mpr (by rw [h, z]; grind))
  have hNm := nu_mul P int_D hg0 hw0
  rw [← h] at hNm
  have ng : nu co g ≠ 0 := fun q => hg0 ((nu_zero P).mp q)
  have nw : nu co w ≠ 0 := fun q => hw0 ((nu_zero P).mp q)
  refine ⟨fun i => ?_, fun i => ?_⟩
  · have h4 := bomb P (f := g) (g := w) (by omega) hw0 hX0 (fun k => by rw [← h]; exact hX k) i
    rw [nz_mul] at h4
    have h5 : 1 ≤ nz (co w (nu co w - 1)) := by have := nu_top P w nw; unfold nz; omega
    have h6 : nz (co g i) * 1 ≤ nz (co g i) * nz (co w (nu co w - 1)) := Int.mul_le_mul_of_nonneg_left h5 (nz_nn _)
    omega
  · have h4 := bomb P (f := w) (g := g) (by omega) hg0 hX0 (fun k => by rw [show w * g = A by rw [h]; grind]; exact hX k) i
    rw [nz_mul] at h4
    have h5 : 1 ≤ nz (co g (nu co g - 1)) := by have := nu_top P g ng; unfold nz; omega
    have h6 : nz (co w i) * 1 ≤ nz (co w i) * nz (co g (nu co g - 1)) := Int.mul_le_mul_of_nonneg_left h5 (nz_nn _)
    omega
theorem l1_le {S : Type} [Lean.Grind.CommRing S] {co : S → Nat → Int} (P : isPol co) {A : S} (hNA : nu co A ≤ 11) {X : Int} (hX : ∀ i, nz (co A i) ≤ X) : l1 co A ≤ 11 * X := by
  rw [← l1_n P A hNA]
  have := sm_le (f := fun i => nz (co A i)) (g := fun _ => X) (n := 11) (fun i _ => hX i)
  rw [sm_const] at this
  omega
theorem s_commonWhole {S : Type} [Lean.Grind.CommRing S] {co : S → Nat → Int} (P : isPol co) {M : MI} (hM : ok M) {a b c : Nat} (ha : a < 60) (hb : b < 60) (hc : c < 60) (ha3 : a ≠ 3) (ha4 : a ≠ 4) (ha5 : a ≠ 5) (ha6 : a ≠ 6) (ha7 : a ≠ 7) (hb3 : b ≠ 3) (hb4 : b ≠ 4) (hb5 : b ≠ 5) (hb6 : b ≠ 6) (hb7 : b ≠ 7) (hpb : ∀ k, k < 20 → M.2 37 k = PB k) {A B : S} (hA : RZ co M a A) (hB : RZ co M b B) (hNA : nu co A ≤ 11) (hNB : nu co B ≤ 11) (hA0 : nu co A ≠ 0) (hB0 : nu co B ≠ 0) (hXA : ∀ i, nz (co A i) ≤ 99990) (hXB : ∀ i, nz (co B i) ≤ 99990) {n : Nat} (hn : 18446744073709551616 ≤ n) :
    ∃ M' g, f_X8_commonWhole n a b c M = some M' ∧ ok M' ∧ chm [3, 4, 5, 6, 7, c] [] M M' ∧ RZ co M' c g ∧ isG P A B g ∧ nu co g ≤ 11 := by
  have hAne : A ≠ 0 := fun h => hA0 ((nu_zero P).mpr h)
  have hBne : B ≠ 0 := fun h => hB0 ((nu_zero P).mpr h)
  obtain ⟨g, hG⟩ := isG_ex P B hAne
  have hG' := hG
  obtain ⟨g1, g2, gA, gB, c0, u0, v0, hc0, he0⟩ := hG
  obtain ⟨C0, u, v, hC0, hCB, hCe⟩ := good_c P hAne hBne gA gB hc0 he0 (B := 2200000) (by have := l1_le P hNA hXA; have := l1_le P hNB hXB; omega) (E := 20) (by omega) (by omega)
  obtain ⟨H, hH⟩ : ∃ H, H = Nat.gcd (co A (nu co A - 1)).natAbs (co B (nu co B - 1)).natAbs := ⟨_, rfl⟩
  have hNg : nu co g ≤ 11 := by
    obtain ⟨w, hw⟩ := gA
    have hw0 : w ≠ 0 := fun z => hAne (by rw [hw, z]; grind)
    have hNm := nu_mul P int_D (prim_ne P g1) hw0
    rw [← hw] at hNm
    have nw : nu co w ≠ 0 := fun q => hw0 ((nu_zero P).mp q)
    omega
  obtain ⟨r, hr, M', hr2, hok', hch', hrz⟩ := lp_do (step := l_X8_commonWhole_84 n a b c H) (fun st => ok st.1 ∧ chm [3, 4, 5, 6, 7] [] M st.1 ∧ ∃ k : Nat, st.2 = k ∧ ∀ j, j < k → (pbp j : Int) ∣ C0) (fun st => (50 - st.2).toNat) (fun r => ∃ M', r = .inl M' ∧ ok M' ∧ chm [3, 4, 5, 6, 7, c] [] M M' ∧ RZ co M' c g) (fun st hst => by
    obtain ⟨M0, y⟩ := st
    obtain ⟨k1, k2, k, hy, hdiv⟩ := hst
    dsimp only at k1 k2 hy
    subst hy
    have hk : k < 11 := by
      rcases Nat.lt_or_ge k 11 with q | q
      · exact q
      · exact (pb_no (C := C0.natAbs) (by omega) hCB (fun j hj => Int.ofNat_dvd_left.mp (hdiv j (by omega)))).elim
    have hA' := RZ_chm hA k2 (by simp; omega) (by omega)
    have hB' := RZ_chm hB k2 (by simp; omega) (by omega)
    obtain ⟨M1, M2, M3, M4, M5, M6, M7, M8, M9, e, C, e1, e2, e3, e4, e5, e6, e7, e8, e9, hok9, hch9, r97, hNC, hCX, ht1, ht2⟩ := cw_step P k1 ha hb ha3 ha5 ha6 hb3 hb5 hb6 (k := k) (by omega) (by rw [k2.2.1 37 k (by omega) (by simp)]; exact hpb k (by omega)) hA' hB' hNA hNB hA0 hB0 hXA hXB g1 g2 gA gB hc0 he0 hH hn
    have hA9 := RZ_chm hA' hch9 (by simp; omega) (by omega)
    have hB9 := RZ_chm hB' hch9 (by simp; omega) (by omega)
    obtain ⟨Ma, hoka, hcha, hda⟩ := s_divides P hok9 (g := 7) (a := a) (by omega) ha (by omega) (by omega) ha3 ha4 (b := 400000000) (by omega) (by omega) r97 hA9 (by omega) (by omega) hA0 (fun i => by have := nz_le.mp (hCX i); omega) (fun i => by have := hXA i; omega) hn
    have hchMa : chm [3, 4, 5, 6, 7] [] M Ma := chm_mono (chm_trans k2 (chm_trans hch9 (chm_of hcha))) (fun x hx => by simp at hx ⊢; omega) (fun x hx => hx)
    have hgood : ∀ X w : S, nu co X ≠ 0 → nu co X ≤ 11 → (∀ i, nz (co X i) ≤ 99990) → X = g * w → (∀ i, nz (co g i) ≤ 20000000) ∧ ∃ q, X = g * q ∧ ∀ i, nz (co q i) ≤ 400000000 := fun X w x0 x1 x2 hw => by
      obtain ⟨z1, z2⟩ := bomb_dv P x0 x1 (X := 99990) (by omega) x2 hw
      exact ⟨fun i => by have := z1 i; omega, w, hw, fun i => by have := z2 i; omega⟩
    have hnext : C ≠ g → ∀ j, j < k + 1 → (pbp j : Int) ∣ C0 := fun hne j hj => by
      rcases Nat.lt_or_ge j k with q | q
      · exact hdiv j q
      · rw [show j = k by omega]
        exact Classical.byContradiction fun h => hne (ht2 C0 u v hCe h)
    unfold l_X8_commonWhole_84
    dsimp only
    rw [show olA 37 = some 20 from rfl, bs, gI_s (by omega) (by omega), bs, if_neg (by omega), e1, bs, e2, bs, e3, bs, e4, bs, e5, bs, e6, bs, e7, bs, e8, bs, e9, bs]
    dsimp only
    rcases hda with ⟨ea, qa, hqa, -, -, -⟩ | ⟨ea, hna⟩
    · have ea' : f_X8_divides n 7 a 400000000 M9 = some (1, Ma) := ea
      rw [ea', bs]
      dsimp only
      rw [gI_s (by omega) (by omega), bs, if_neg (by omega)]
      have r7a := RZ_chg r97 hcha (by simp) (by omega)
      have hBa := RZ_chg hB9 hcha (by simp; omega) (by omega)
      obtain ⟨Mb, hokb, hchb, hdb⟩ := s_divides P hoka (g := 7) (a := b) (by omega) hb (by omega) (by omega) hb3 hb4 (b := 400000000) (by omega) (by omega) r7a hBa (by omega) (by omega) hB0 (fun i => by have := nz_le.mp (hCX i); omega) (fun i => by have := hXB i; omega) hn
      have hchMb : chm [3, 4, 5, 6, 7] [] M Mb := chm_mono (chm_trans hchMa (chm_of hchb)) (fun x hx => by simp at hx ⊢; omega) (fun x hx => hx)
      rcases hdb with ⟨eb, qb, hqb, -, -, -⟩ | ⟨eb, hnb⟩
      · have eb' : f_X8_divides n 7 b 400000000 Ma = some (1, Mb) := eb
        rw [eb', bs]
        dsimp only
        rw [gI_s (by omega) (by omega), bs, if_neg (by omega)]
        have hCg := ht1 ⟨qa, hqa⟩ ⟨qb, hqb⟩
        have r7b := RZ_chg r7a hchb (by simp) (by omega)
        obtain ⟨Mc, ec, hokc, hchc, r7c⟩ := s_copyZ hokb (a := 7) (b := c) (by omega) hc r7b (by omega) hn
        have ec' : f_X8_copy n 7 c Mb = some Mc := ec
        rw [ec', bs]
        exact Or.inl ⟨_, rfl, Mc, rfl, hokc, chm_mono (chm_trans hchMb (chm_of hchc)) (fun x hx => by simp at hx ⊢; omega) (fun x hx => hx), by rw [← hCg]; exact r7c⟩
      · have eb' : f_X8_divides n 7 b 400000000 Ma = some (0, Mb) := eb
        rw [eb', bs]
        dsimp only
        rw [gI_s (by omega) (by omega), bs, if_pos rfl]
        refine Or.inr ⟨_, rfl, ⟨hokb, hchMb, k + 1, by dsimp only; omega, hnext fun hCg => hnb ?_⟩, by dsimp only; omega⟩
        obtain ⟨w, hw⟩ := gB
        rw [hCg]
        exact hgood B w hB0 hNB hXB hw
    · have ea' : f_X8_divides n 7 a 400000000 M9 = some (0, Ma) := ea
      rw [ea', bs]
      dsimp only
      rw [gI_s (by omega) (by omega), bs, if_pos rfl]
      refine Or.inr ⟨_, rfl, ⟨hoka, hchMa, k + 1, by dsimp only; omega, hnext fun hCg => hna ?_⟩, by dsimp only; omega⟩
      obtain ⟨w, hw⟩ := gA
      rw [hCg]
      exact hgood A w hA0 hNA hXA hw) n (M, 0) ⟨hM, chm_refl _ _ _, 0, rfl, fun j hj => absurd hj (by omega)⟩ (by dsimp only; omega)
  refine ⟨M', g, ?_, hok', hch', hrz, hG', hNg⟩
  have d1 : odI M 42 a = some ((nu co A : Int) - 1) := by rw [odI_n a rfl rfl (by rw [k42.2]; exact ha)]; exact congrArg some hA.1
  have d2 : odI M 42 b = some ((nu co B : Int) - 1) := by rw [odI_n b rfl rfl (by rw [k42.2]; exact hb)]; exact congrArg some hB.1
  have d3 : odJ M 41 (24 * (a : Int) + ((nu co A : Int) - 1)) = some (co A (nu co A - 1)) := by rw [odJ_n (24 * a + (nu co A - 1)) rfl (by omega) (by rw [k41.2]; omega)]; exact congrArg some (hA.2 _ (by omega))
  have d4 : odJ M 41 (24 * (b : Int) + ((nu co B : Int) - 1)) = some (co B (nu co B - 1)) := by rw [odJ_n (24 * b + (nu co B - 1)) rfl (by omega) (by rw [k41.2]; omega)]; exact congrArg some (hB.2 _ (by omega))
  have hxa := nz_le.mp (hXA (nu co A - 1))
  have hxb := nz_le.mp (hXB (nu co B - 1))
  unfold f_X8_commonWhole
  rw [d1, bs, gI_s (by omega) (by omega), bs, if_neg (by omega), d2, bs, gI_s (by omega) (by omega), bs, if_pos (by omega), bs, d3, bs, bs, d4, bs, s_common (by omega) (by omega) hn, bs, ← hH, hr, bs, hr2]
theorem pp_isG {S : Type} [Lean.Grind.CommRing S] {co : S → Nat → Int} (P : isPol co) {A g : S} {c : Int} (hc : c ≠ 0) (h : A = mo P c 0 * g) (hg : prim co g) (hg1 : 0 < co g (nu co g - 1)) : isG P A 0 g := ⟨hg, hg1, ⟨mo P c 0, by rw [h]; grind⟩, dv_zero _, c, 1, 0, hc, by rw [h]; grind⟩
theorem s_commonWhole0 {S : Type} [Lean.Grind.CommRing S] {co : S → Nat → Int} (P : isPol co) {M : MI} (hM : ok M) {a b c : Nat} (ha : a < 60) (hb : b < 60) (hc : c < 60) {A B : S} (hA : RZ co M a A) (hB : RZ co M b B) (hNA : nu co A ≤ 11) (hNB : nu co B ≤ 11) (h0 : nu co A = 0 ∧ nu co B ≠ 0 ∨ nu co A ≠ 0 ∧ nu co B = 0) (hXA : ∀ i, nz (co A i) ≤ 99990) (hXB : ∀ i, nz (co B i) ≤ 99990) {n : Nat} (hn : 18446744073709551616 ≤ n) :
    ∃ M' g, f_X8_commonWhole n a b c M = some M' ∧ ok M' ∧ chg [c] M M' ∧ RZ co M' c g ∧ isG P A B g ∧ nu co g ≤ 11 := by
  have d1 : odI M 42 a = some ((nu co A : Int) - 1) := by rw [odI_n a rfl rfl (by rw [k42.2]; exact ha)]; exact congrArg some hA.1
  have d2 : odI M 42 b = some ((nu co B : Int) - 1) := by rw [odI_n b rfl rfl (by rw [k42.2]; exact hb)]; exact congrArg some hB.1
  rcases h0 with ⟨hA0, hB0⟩ | ⟨hA0, hB0⟩
  · obtain ⟨M1, e1, hok1, hc1, r1⟩ := s_copyZ hM hb hc hB (by omega) hn
    obtain ⟨M2, g, e2, hok2, hc2, r2, hBg, hg, hg1, hNg, hs⟩ := s_primitiveZ P hok1 hc r1 (by omega) hB0 (fun i => by have := nz_le.mp (hXB i); omega) hn
    refine ⟨M2, g, ?_, hok2, chg_mono (chg_trans hc1 hc2) (fun x hx => by simpa using hx), r2, isG_symm P ?_, by omega⟩
    · unfold f_X8_commonWhole
      rw [d1, bs, gI_s (by omega) (by omega), bs, if_pos (by omega), bs, gI_s (by omega) (by omega), bs, if_neg (by omega), bs, e1, bs, e2, bs]
    · rw [(nu_zero P).mp hA0]; exact pp_isG P hs hBg hg hg1
  · obtain ⟨M1, e1, hok1, hc1, r1⟩ := s_copyZ hM ha hc hA (by omega) hn
    obtain ⟨M2, g, e2, hok2, hc2, r2, hBg, hg, hg1, hNg, hs⟩ := s_primitiveZ P hok1 hc r1 (by omega) hA0 (fun i => by have := nz_le.mp (hXA i); omega) hn
    refine ⟨M2, g, ?_, hok2, chg_mono (chg_trans hc1 hc2) (fun x hx => by simpa using hx), r2, ?_, by omega⟩
    · unfold f_X8_commonWhole
      rw [d1, bs, gI_s (by omega) (by omega), bs, if_neg (by omega), d2, bs, gI_s (by omega) (by omega), bs, if_neg (by omega), bs, gI_s (by omega) (by omega), bs, if_pos (by omega), bs, e1, bs, e2, bs]
    · rw [(nu_zero P).mp hB0]; exact pp_isG P hs hBg hg hg1
end MRefN
