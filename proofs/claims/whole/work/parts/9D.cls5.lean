/-! the class's field: commonDivisor, multiply, raise, lift -/
section MCls5
theorem c_commonDivisor {R T : Type} [Lean.Grind.CommRing R] [Lean.Grind.CommRing T] {ct : T → Nat → R} (K : isPol ct) {p : Nat} (hp : isZp R p) {φ : Int → R} (hφ : isRed φ p) (hp2 : p ≤ 100000000) {M : MI} (hM : ok M) {a b c : Nat} (ha : row a) (hb : row b) (hc : row c) (ha16 : a ≠ 16) (hb16 : b ≠ 16) (hm : M.1 1 0 = p) {f g : T} (hf : ∀ i, i < 11 → φ (M.1 a i) = ct f i) (hg : ∀ i, i < 11 → φ (M.1 b i) = ct g i) (hNf : nu ct f ≤ 11) (hNg : nu ct g ≤ 11) (hwa : ∀ i, i < 11 → -9223372036854775807 ≤ M.1 a i) (hwb : ∀ i, i < 11 → -9223372036854775807 ≤ M.1 b i) {n : Nat} (hn : 18446744073709551616 ≤ n) : ∃ M' h u v, f_X3_commonDivisor n a b c M = some M' ∧ ok M' ∧ chJ [14, 16, 17, c] M M' ∧ CP ct φ p M' c h ∧ h = u * f + v * g ∧ dv h f ∧ dv h g ∧ (h ≠ 0 → ct h (nu ct h - 1) = 1) := by
  have hp1 := hp.1.1
  have hF := hp.2.2.1
  have r16 : row 16 := ⟨rfl, rfl⟩
  have r17 : row 17 := ⟨rfl, rfl⟩
  obtain ⟨M1, e1, hok1, hc1, cf⟩ := c_reduceG K hp hφ hM ha r16 hm (by omega) hf hNf hwa hn
  have hm1 : M1.1 1 0 = p := by rw [hc1.2 1 0 (by simp)]; exact hm
  obtain ⟨M2, e2, hok2, hc2, cg'⟩ := c_reduceG K hp hφ hok1 hb r17 hm1 (by omega) (f := g) (fun i hi => by rw [hc1.2 b i (by simpa using hb16)]; exact hg i hi) hNg (fun i hi => by rw [hc1.2 b i (by simpa using hb16)]; exact hwb i hi) hn
  have hm2 : M2.1 1 0 = p := by rw [hc2.2 1 0 (by simp)]; exact hm1
  have cf2 := CP_ch cf hc2 (by simp)
  obtain ⟨⟨M10, u10⟩, hL, hok10, hc10, hu10, h, x, y, hh, hhf, hhg, ch⟩ := lp_do (step := l_X3_commonDivisor_33 n) (fun st => ok st.1 ∧ chJ [14, 16, 17] M2 st.1 ∧ ((st.2.1 = 16 ∧ st.2.2.1 = 17) ∨ (st.2.1 = 17 ∧ st.2.2.1 = 16)) ∧ ∃ (t : Nat) (u v x1 y1 x2 y2 : T), st.2.2.2 = t ∧ CP ct φ p st.1 st.2.1 u ∧ CP ct φ p st.1 st.2.2.1 v ∧ t + nu ct v ≤ 20 ∧ u = x1 * f + y1 * g ∧ v = x2 * f + y2 * g ∧ (∀ d, dv d u → dv d v → dv d f ∧ dv d g)) (fun st => (30 - st.2.2.2).toNat) (fun r => ok r.1 ∧ chJ [14, 16, 17] M2 r.1 ∧ (r.2 = 16 ∨ r.2 = 17) ∧ ∃ h x y, h = x * f + y * g ∧ dv h f ∧ dv h g ∧ CP ct φ p r.1 r.2 h) (fun st hst => by
    obtain ⟨Ma, ui, vi, ti⟩ := st
    obtain ⟨k1, k2, hid, t, u, v, x1, y1, x2, y2, ht, cu, cv, htn, hu, hv, hall⟩ := hst
    dsimp only at k1 k2 hid ht cu cv
    subst ht
    have rv : row vi := by rcases hid with ⟨-, z⟩ | ⟨-, z⟩ <;> rw [z] <;> exact ⟨rfl, rfl⟩
    have ru : row ui := by rcases hid with ⟨z, -⟩ | ⟨z, -⟩ <;> rw [z] <;> exact ⟨rfl, rfl⟩
    have huv : ui ≠ vi := by omega
    have hma : Ma.1 1 0 = p := by rw [k2.2 1 0 (by simp)]; exact hm2
    have hd := c_degreeP K hφ k1 rv cv hn
    have hNv := cv.2
    unfold l_X3_commonDivisor_33
    dsimp only
    rw [gI_s (by omega) (by omega), bs, if_neg (by omega), hd, bs, gI_s (by omega) (by omega), bs]
    by_cases h0 : (nu ct v : Int) - 1 < 0
    · rw [if_pos h0]
      have hv0 : v = 0 := (nu_zero K).mp (by omega)
      obtain ⟨d1, d2⟩ := hall u (dv_refl u) (by rw [hv0]; exact dv_zero u)
      exact Or.inl ⟨_, rfl, k1, k2, by dsimp only; omega, u, x1, y1, hu, d1, d2, cu⟩
    · obtain ⟨Mb, q, r, eb, hokb, hcb, hq, hr, crb, -⟩ := c_fdivide K hp hφ hp2 k1 ru rv huv (by omega) (by omega) hma cu cv (by omega) hn
      rw [if_neg h0, eb, bs]
      refine Or.inr ⟨_, rfl, ⟨hokb, chJ_mono (chJ_trans k2 hcb) (fun x hx => by simp at hx ⊢; omega), by dsimp only; omega, t + 1, v, r, x2, y2, x1 - q * x2, y1 - q * y2, by dsimp only; omega, CP_ch cv hcb (by simp; omega), crb, by omega, hv, ?_, fun d hd1 hd2 => hall d (by rw [hq]; exact dv_add (dv_mull _ hd1) hd2) hd1⟩, by dsimp only; omega⟩
      have : r = u - q * v := by rw [hq]; grind
      rw [this, hu, hv]; grind) n (M2, 16, 17, 0) ⟨hok2, chJ_refl _ _, Or.inl ⟨rfl, rfl⟩, 0, f, g, 1, 0, 0, 1, rfl, cf2, cg', by omega, by grind, by grind, fun d h1 h2 => ⟨h1, h2⟩⟩ (by dsimp only; omega)
  dsimp only at hok10 hc10 hu10 ch
  have ru : row u10 := by rcases hu10 with z | z <;> rw [z] <;> exact ⟨rfl, rfl⟩
  have hm10 : M10.1 1 0 = p := by rw [hc10.2 1 0 (by simp)]; exact hm2
  obtain ⟨M12, s, e12, hok12, hc12, c12, hs0, hs1, hsN⟩ := c_makeMonic K hp hφ hok10 ru hc hm10 hp2 (f := h) (fun i hi => (ch.1 i hi).2.2) ch.2 (fun i hi => by have := (ch.1 i hi).1; omega) hn
  obtain ⟨d, hd0, hd1⟩ := mo_inv K hF hs0
  refine ⟨M12, mo K s 0 * h, mo K s 0 * x, mo K s 0 * y, ?_, hok12, chJ_mono (chJ_trans hc1 (chJ_trans hc2 (chJ_trans hc10 hc12))) (fun x hx => by simp at hx ⊢; omega), c12, by rw [hh]; grind, ?_, ?_, fun hne => ?_⟩
  · unfold f_X3_commonDivisor
    rw [e1, bs, e2, bs, hL, bs]
    dsimp only
    rw [e12, bs]
  · obtain ⟨w, hw⟩ := hhf
    refine ⟨mo K d 0 * w, ?_⟩
    have : mo K s 0 * h * (mo K d 0 * w) = (mo K d 0 * mo K s 0) * (h * w) := by grind
    rw [this, hd1, hw]; grind
  · obtain ⟨w, hw⟩ := hhg
    refine ⟨mo K d 0 * w, ?_⟩
    have : mo K s 0 * h * (mo K d 0 * w) = (mo K d 0 * mo K s 0) * (h * w) := by grind
    rw [this, hd1, hw]; grind
  · rw [hsN, mo_0 K]
    have hne2 : h ≠ 0 := fun z => hne (by rw [z]; grind)
    rw [← hs1 hne2]; grind
theorem k15 : kd 15 = 2 ∧ kn 15 = 21 := ⟨rfl, rfl⟩
theorem c_mulI {R T : Type} [Lean.Grind.CommRing R] [Lean.Grind.CommRing T] {ct : T → Nat → R} (K : isPol ct) {p : Nat} (hp : isZp R p) {φ : Int → R} (hφ : isRed φ p) (hp2 : p ≤ 100000000) {M : MI} (hM : ok M) {a b i m : Nat} (ha : row a) (hb : row b) (ha15 : a ≠ 15) (hb15 : b ≠ 15) {f g Q : T} (hf : CP ct φ p M a f) (hg : CP ct φ p M b g) (hm : m ≤ 10) (hi : i < m) (hNg : nu ct g ≤ m) (hQ : ∀ t, t < 21 → φ (M.1 15 t) = ct Q t) (hX : ∀ t, t < 21 → 0 ≤ M.1 15 t ∧ M.1 15 t ≤ i * 10000000000000000) {n : Nat} (hn : 18446744073709551616 ≤ n) : ∃ M', lpF (l_X3_multiply_21 a b m i) n (M, 0) = some M' ∧ ok M' ∧ chJ [15] M M' ∧ (∀ t, t < 21 → φ (M'.1 15 t) = ct (Q + mo K (ct f i) i * g) t) ∧ ∀ t, t < 21 → 0 ≤ M'.1 15 t ∧ M'.1 15 t ≤ (i + 1 : Nat) * 10000000000000000 := by
  obtain ⟨f1, f2, f3⟩ := hf.1 i (by omega)
  by_cases hz : M.1 a i = 0
  · refine ⟨M, lp_for (fun _ => (M, (0 : Int))) _ 0 n (fun k hk => absurd hk (by omega)) ?_ (by omega), hM, chJ_refl _ _, fun t ht => ?_, fun t ht => ?_⟩
    · unfold l_X3_multiply_21
      dsimp only
      rw [gI_s (by omega) (by omega), bs, if_neg (by omega), odJ_n i ha.1 rfl (by rw [ha.2]; omega), bs, hz, gJ_s (by omega) (by omega), bs, if_pos rfl]
    · have hf0 : ct f i = 0 := by rw [← f3, hz]; exact red_zero hφ
      rw [hQ t ht, hf0, mo_zero K, show Q + 0 * g = Q by grind]
    · have := hX t ht; omega
  · obtain ⟨V, hV⟩ : ∃ V : Nat → Int, V = fun j => M.1 15 (i + j) + M.1 a i * M.1 b j := ⟨_, rfl⟩
    have hVX : ∀ j, j < m → 0 ≤ V j ∧ V j ≤ (i + 1 : Nat) * 10000000000000000 := fun j hj => by
      obtain ⟨g1, g2, -⟩ := hg.1 j (by omega)
      have h1 := hX (i + j) (by omega)
      have h2 : 0 ≤ M.1 a i * M.1 b j := Int.mul_nonneg f1 g1
      have h3 : M.1 a i * M.1 b j ≤ 100000000 * 100000000 := Int.mul_le_mul (by omega) (by omega) g1 (by omega)
      rw [hV]; dsimp only
      omega
    have hL : lpF (l_X3_multiply_21 a b m i) n (M, 0) = some (wrM M 15 i m V) := by
      have e := lp_for (step := l_X3_multiply_21 a b m i) (fun j => (wrM M 15 i j V, (j : Int))) (wrM M 15 i m V) m n (fun j hj => by
        have e1 : (wrM M 15 i j V).1 a i = M.1 a i := by rw [wrM_1, if_neg (fun z => ha15 z.1)]
        have e2 : (wrM M 15 i j V).1 b j = M.1 b j := by rw [wrM_1, if_neg (fun z => hb15 z.1)]
        have e3 : (wrM M 15 i j V).1 15 (i + j) = M.1 15 (i + j) := by rw [wrM_1, if_neg (by omega)]
        have eV : M.1 15 (i + j) + M.1 a i * M.1 b j = V j := by rw [hV]
        unfold l_X3_multiply_21
        dsimp only
        rw [gI_s (by omega) (by omega), bs, if_neg (by omega), odJ_n i ha.1 rfl (by rw [ha.2]; omega), bs, e1, gJ_s (by omega) (by omega), bs, if_neg hz, odJ_n (k := 15) (i + j) rfl (by omega) (show i + j < 21 by omega), bs, e3, bs, odJ_n j hb.1 rfl (by rw [hb.2]; omega), bs, e2, osJ_n (k := 15) (i + j) rfl (by omega) (show i + j < 21 by omega), bs, eV, wrM_s]
        rfl) (by
        unfold l_X3_multiply_21
        dsimp only
        rw [gI_s (by omega) (by omega), bs, if_pos (by omega)]) (by omega)
      rw [wrM_0] at e
      exact e
    refine ⟨_, hL, ok_wrM hM (fun j hj => by have := hVX j hj; omega), chJ_wr M 15 i m V, fun t ht => ?_, fun t ht => ?_⟩
    · rw [wrM_1, p_add K, mo_mul K]
      by_cases z : i ≤ t ∧ t < i + m
      · rw [if_pos (by omega), if_pos z.1, hV]; dsimp only
        rw [show i + (t - i) = t by omega, hφ.1, hφ.2.1, hQ t ht, f3, (hg.1 (t - i) (by omega)).2.2]
      · rw [if_neg (by omega), hQ t ht]
        by_cases w : i ≤ t
        · rw [if_pos w, nu_hi K g (by omega)]; grind
        · rw [if_neg w]; grind
    · rw [wrM_1]
      by_cases z : i ≤ t ∧ t < i + m
      · rw [if_pos (by omega)]; exact hVX (t - i) (by omega)
      · rw [if_neg (by omega)]; have := hX t ht; omega
theorem c_mulR {R T : Type} [Lean.Grind.CommRing R] [Lean.Grind.CommRing T] {ct : T → Nat → R} (K : isPol ct) {p : Nat} (hp : isZp R p) {φ : Int → R} (hφ : isRed φ p) (hp2 : p ≤ 100000000) {M : MI} (hM : ok M) {c k : Nat} (hc : row c) (hc15 : c ≠ 15) {h r : T} (hh : CP ct φ p M c h) (hh0 : nu ct h ≠ 0) (hh1 : ct h (nu ct h - 1) = 1) (hk : k + nu ct h ≤ 21) {q X : Int} (hqp : nz q < p) (hqr : φ q = ct r (k + (nu ct h - 1))) (hX0 : 0 ≤ X) (hX2 : X ≤ 1000000000000000000) (hr : ∀ j, j < k + (nu ct h - 1) → φ (M.1 15 j) = ct r j) (hrX : ∀ j, j < 21 → nz (M.1 15 j) ≤ X) {n : Nat} (hn : 18446744073709551616 ≤ n) : ∃ M', lpF (l_X3_multiply_102 c ((nu ct h : Int) - 1) k q) n (M, 0) = some M' ∧ ok M' ∧ chJ [15] M M' ∧ (∀ j, j < k + (nu ct h - 1) → φ (M'.1 15 j) = ct (r - mo K (φ q) k * h) j) ∧ (ct (r - mo K (φ q) k * h) (k + (nu ct h - 1)) = 0) ∧ ∀ j, j < 21 → nz (M'.1 15 j) ≤ X + 10000000000000000 := by
  have hNh := hh.2
  have hq1 := nz_le.mp (Int.le_of_lt hqp)
  have htop : ct (r - mo K (φ q) k * h) (k + (nu ct h - 1)) = 0 := by
    rw [p_sub K, mo_mul K, if_pos (by omega), show k + (nu ct h - 1) - k = nu ct h - 1 by omega, hh1, hqr]; grind
  by_cases hz : q = 0
  · refine ⟨M, lp_for (fun _ => (M, (0 : Int))) _ 0 n (fun k hk => absurd hk (by omega)) ?_ (by omega), hM, chJ_refl _ _, fun j hj => ?_, htop, fun j hj => by have := hrX j hj; omega⟩
    · unfold l_X3_multiply_102
      dsimp only
      rw [gI_s (by omega) (by omega), bs]
      by_cases w : (nu ct h : Int) - 1 ≤ 0
      · rw [if_pos w]
      · rw [if_neg w, gJ_s (by omega) (by omega), bs, if_pos hz]
    · rw [hr j hj, hz, red_zero hφ, mo_zero K]
      congr 1; grind
  · obtain ⟨V, hV⟩ : ∃ V : Nat → Int, V = fun j => M.1 15 (k + j) - q * M.1 c j := ⟨_, rfl⟩
    have hVX : ∀ j, j < nu ct h - 1 → nz (V j) ≤ X + 10000000000000000 := fun j hj => by
      obtain ⟨b1, b2, -⟩ := hh.1 j (by omega)
      have h1 := hrX (k + j) (by omega)
      have h2 : nz (q * M.1 c j) ≤ 100000000 * 100000000 := nz_mul_le (by omega) (by rw [nz_le]; omega)
      rw [hV]; dsimp only
      have := nz_sub_le h1 h2
      omega
    have hL : lpF (l_X3_multiply_102 c ((nu ct h : Int) - 1) k q) n (M, 0) = some (wrM M 15 k (nu ct h - 1) V) := by
      have e := lp_for (step := l_X3_multiply_102 c ((nu ct h : Int) - 1) k q) (fun j => (wrM M 15 k j V, (j : Int))) (wrM M 15 k (nu ct h - 1) V) (nu ct h - 1) n (fun j hj => by
        have e1 : (wrM M 15 k j V).1 c j = M.1 c j := by rw [wrM_1, if_neg (fun z => hc15 z.1)]
        have e2 : (wrM M 15 k j V).1 15 (k + j) = M.1 15 (k + j) := by rw [wrM_1, if_neg (by omega)]
        have e3 : M.1 15 (k + j) - q * M.1 c j = V j := by rw [hV]
        unfold l_X3_multiply_102
        dsimp only
        rw [gI_s (by omega) (by omega), bs, if_neg (by omega), gJ_s (by omega) (by omega), bs, if_neg hz, odJ_n (k := 15) (k + j) rfl (by omega) (show k + j < 21 by omega), bs, e2, odJ_n j hc.1 rfl (by rw [hc.2]; omega), bs, e1, osJ_n (k := 15) (k + j) rfl (by omega) (show k + j < 21 by omega), bs, e3, wrM_s]
        rfl) (by
        unfold l_X3_multiply_102
        dsimp only
        rw [gI_s (by omega) (by omega), bs, if_pos (by omega)]) (by omega)
      rw [wrM_0] at e
      exact e
    refine ⟨_, hL, ok_wrM hM (fun j hj => by have := nz_le.mp (hVX j hj); omega), chJ_wr M 15 k _ V, fun j hj => ?_, htop, fun j hj => ?_⟩
    · rw [wrM_1, p_sub K, mo_mul K]
      by_cases z : k ≤ j
      · rw [if_pos (by omega), if_pos z, hV]; dsimp only
        rw [show k + (j - k) = j by omega, red_sub hφ, hφ.2.1, hr j hj, (hh.1 (j - k) (by omega)).2.2]
      · rw [if_neg (by omega), if_neg z, hr j hj]; grind
    · rw [wrM_1]
      by_cases z : k ≤ j ∧ j < k + (nu ct h - 1)
      · rw [if_pos (by omega)]; exact hVX (j - k) (by omega)
      · rw [if_neg (by omega)]; have := hrX j hj; omega
theorem c_multiply {R T : Type} [Lean.Grind.CommRing R] [Lean.Grind.CommRing T] {ct : T → Nat → R} (K : isPol ct) {p : Nat} (hp : isZp R p) {φ : Int → R} (hφ : isRed φ p) (hp2 : p ≤ 100000000) {M : MI} (hM : ok M) {a b c d : Nat} (ha : row a) (hb : row b) (hc : row c) (hd : row d) (ha15 : a ≠ 15) (hb15 : b ≠ 15) (hc15 : c ≠ 15) (hd15 : d ≠ 15) (hm : M.1 1 0 = p) {f g h : T} (hf : CP ct φ p M a f) (hg : CP ct φ p M b g) (hh : CP ct φ p M c h) (hh0 : 2 ≤ nu ct h) (hh1 : ct h (nu ct h - 1) = 1) (hNf : nu ct f < nu ct h) (hNg : nu ct g < nu ct h) {n : Nat} (hn : 18446744073709551616 ≤ n) : ∃ M' q r, f_X3_multiply n a b c ((nu ct h : Int) - 1) d M = some M' ∧ ok M' ∧ chJ [15, d] M M' ∧ f * g = q * h + r ∧ nu ct r < nu ct h ∧ CP ct φ p M' d r := by
  have hp1 := hp.1.1
  have hNh := hh.2
  obtain ⟨m, hme⟩ : ∃ m : Nat, m = nu ct h - 1 := ⟨_, rfl⟩
  have em : (nu ct h : Int) - 1 = (m : Int) := by omega
  have e1 := j_fill (M := M) (a := 15) rfl (by decide) 0 hn
  rw [show kn 15 = 21 from rfl] at e1
  obtain ⟨M1, hM1⟩ : ∃ M1, M1 = wrM M 15 0 21 (fun _ => 0) := ⟨_, rfl⟩
  rw [← hM1] at e1
  have hok1 : ok M1 := by rw [hM1]; exact ok_wrM hM (fun _ _ => by omega)
  have hc1 : chJ [15] M M1 := by rw [hM1]; exact chJ_wr _ 15 0 21 _
  have hf1 := CP_ch hf hc1 (by simpa using ha15)
  have hg1 := CP_ch hg hc1 (by simpa using hb15)
  have hh1' := CP_ch hh hc1 (by simpa using hc15)
  -- the product
  obtain ⟨M14, hL1, hok14, hc14, hv14, hX14⟩ := lp_do (step := l_X3_multiply_11 n a b m) (fun st => ok st.1 ∧ chJ [15] M1 st.1 ∧ ∃ i : Nat, st.2 = i ∧ i ≤ m ∧ (∀ t, t < 21 → φ (st.1.1 15 t) = ct (pt K f i * g) t) ∧ ∀ t, t < 21 → 0 ≤ st.1.1 15 t ∧ st.1.1 15 t ≤ i * 10000000000000000) (fun st => (30 - st.2).toNat) (fun M' => ok M' ∧ chJ [15] M1 M' ∧ (∀ t, t < 21 → φ (M'.1 15 t) = ct (f * g) t) ∧ ∀ t, t < 21 → 0 ≤ M'.1 15 t ∧ M'.1 15 t ≤ 100000000000000000) (fun st hst => by
    obtain ⟨Ma, y⟩ := st
    obtain ⟨k1, k2, i, hy, hi, hv, hX⟩ := hst
    dsimp only at k1 k2 hy hv hX
    subst hy
    unfold l_X3_multiply_11
    dsimp only
    rw [gI_s (by omega) (by omega), bs]
    by_cases hlt : (m : Int) ≤ i
    · rw [if_pos hlt]
      have e : pt K f i = f := by
        have e3 : pt K f i = pt K f (nu ct f) := sm_more (show nu ct f ≤ i by omega) (fun j hj _ => by rw [nu_hi K f hj, mo_zero K])
        rw [e3, pt_all K f]
      rw [e] at hv
      exact Or.inl ⟨_, rfl, k1, k2, hv, fun t ht => by have := hX t ht; omega⟩
    · obtain ⟨Mb, eb, hokb, hcb, hvb, hXb⟩ := c_mulI K hp hφ hp2 k1 (i := i) (m := m) ha hb ha15 hb15 (CP_ch hf1 k2 (by simpa using ha15)) (CP_ch hg1 k2 (by simpa using hb15)) (by omega) (by omega) (by omega) hv hX hn
      rw [if_neg hlt, eb, bs]
      have hpt : pt K f (i + 1) = pt K f i + mo K (ct f i) i := rfl
      have hpe : pt K f (i + 1) * g = pt K f i * g + mo K (ct f i) i * g := by rw [hpt]; grind
      exact Or.inr ⟨_, rfl, ⟨hokb, chJ_mono (chJ_trans k2 hcb) (fun x hx => by simpa using hx), i + 1, by dsimp only; omega, by omega, fun t ht => by rw [hpe]; exact hvb t ht, hXb⟩, by dsimp only; omega⟩) n (M1, 0) ⟨hok1, chJ_refl _ _, 0, rfl, by omega, fun t ht => by
      have : pt K f 0 = 0 := rfl
      dsimp only
      rw [this, show (0 : T) * g = 0 by grind, p_zero K, hM1, wrM_1, if_pos (by omega)]
      exact red_zero hφ, fun t ht => by dsimp only; rw [hM1, wrM_1, if_pos (by omega)]; omega⟩ (by dsimp only; omega)
  have hm14 : M14.1 1 0 = p := by rw [hc14.2 1 0 (by simp), hc1.2 1 0 (by simp)]; exact hm
  have hh14 := CP_ch hh1' hc14 (by simpa using hc15)
  -- the rest by the monic row
  obtain ⟨M27, hL2, hok27, hc27, q, r, hqr, hrN, hv27, hX27⟩ := lp_do (step := l_X3_multiply_77 n c m) (fun st => ok st.1 ∧ chJ [15] M14 st.1 ∧ ∃ (t : Int) (q r : T), st.2 = t - 1 ∧ 0 ≤ t ∧ t ≤ m ∧ f * g = q * h + r ∧ (∀ j : Nat, t + m ≤ j → ct r j = 0) ∧ (∀ j : Nat, (j : Int) < t + m → φ (st.1.1 15 j) = ct r j) ∧ ∀ j, j < 21 → nz (st.1.1 15 j) ≤ 100000000000000000 + (m - t) * 10000000000000000) (fun st => (st.2 + 10).toNat) (fun M' => ok M' ∧ chJ [15] M14 M' ∧ ∃ q r, f * g = q * h + r ∧ nu ct r ≤ m ∧ (∀ j, j < m → φ (M'.1 15 j) = ct r j) ∧ ∀ j, j < 21 → nz (M'.1 15 j) ≤ 1000000000000000000) (fun st hst => by
    obtain ⟨Ma, y⟩ := st
    obtain ⟨k1, k2, t, q, r, hy, ht0, htm, hqr, hr1, hrv, hrX⟩ := hst
    dsimp only at k1 k2 hy hrv hrX
    subst hy
    have hma : Ma.1 1 0 = p := by rw [k2.2 1 0 (by simp)]; exact hm14
    unfold l_X3_multiply_77
    dsimp only
    rw [gI_s (by omega) (by omega), bs]
    by_cases hlt : t - 1 < 0
    · rw [if_pos hlt]
      exact Or.inl ⟨_, rfl, k1, k2, q, r, hqr, nu_le K (fun j hj => hr1 j (by omega)), fun j hj => hrv j (by omega), fun j hj => by have := hrX j hj; omega⟩
    · obtain ⟨k, hk⟩ : ∃ k : Nat, t - 1 = k := ⟨(t - 1).toNat, by omega⟩
      have ek : t = k + 1 := by omega
      subst ek
      rw [if_neg hlt, show (k : Int) + 1 - 1 = k by omega]
      obtain ⟨x, hx⟩ : ∃ x, Ma.1 15 (k + m) = x := ⟨_, rfl⟩
      have hxv := hrv (k + m) (by omega)
      have hxX := hrX (k + m) (by omega)
      rw [hx] at hxv hxX
      have hxB := nz_le.mp (show nz x ≤ 1000000000000000000 by omega)
      have e8 : odJ Ma 15 ((k : Int) + (m : Int)) = some x := by rw [odJ_n (k := 15) (k + m) rfl (by omega) (show k + m < 21 by omega), hx]
      have eo : orJ x p = some (x.tmod p) := by unfold orJ; rw [if_pos ⟨by omega, by omega, by omega, by omega⟩]
      have hmn : (x.tmod p).natAbs < p := by rw [Int.natAbs_tmod, Int.natAbs_natCast]; exact Nat.mod_lt _ (by omega)
      have hφQ : φ (x.tmod p) = ct r (k + m) := by
        rw [← hxv, red_eq hφ]
        have := Int.mul_tdiv_add_tmod x p
        exact ⟨-(x.tdiv p), by rw [Int.mul_neg]; omega⟩
      obtain ⟨Mb, eb, hokb, hcb, hvb, htop, hXb⟩ := c_mulR K hp hφ hp2 k1 (k := k) hc hc15 (CP_ch hh14 k2 (by simpa using hc15)) (by omega) hh1 (by omega) (q := x.tmod p) (by unfold nz; omega) (by rw [← hme]; exact hφQ) (X := 100000000000000000 + (m - ((k : Int) + 1)) * 10000000000000000) (by omega) (by omega) (fun j hj => hrv j (by omega)) hrX hn
      rw [em] at eb
      rw [e8, bs, hma, eo, bs, eb, bs]
      refine Or.inr ⟨_, rfl, ⟨hokb, chJ_mono (chJ_trans k2 hcb) (fun x hx => by simpa using hx), (k : Int), q + mo K (φ (x.tmod p)) k, r - mo K (φ (x.tmod p)) k * h, by dsimp only; omega, by omega, by omega, by rw [hqr]; grind, fun j hj => ?_, fun j hj => hvb j (by omega), fun j hj => by dsimp only; have := hXb j hj; omega⟩, by dsimp only; omega⟩
      by_cases z : j = k + m
      · rw [z, hme]; exact htop
      · rw [p_sub K, mo_mul K, hr1 j (by omega)]
        split
        · rw [nu_hi K h (by omega)]; grind
        · grind) n (M14, (m : Int) - 2) ⟨hok14, chJ_refl _ _, (m : Int) - 1, 0, f * g, by dsimp only; omega, by omega, by omega, by grind, fun j hj => mul_hi K (fun i hi => nu_hi K f hi) (fun i hi => nu_hi K g hi) j (by omega), fun j hj => hv14 j (by omega), fun j hj => by dsimp only; have := hX14 j hj; rw [nz_le]; omega⟩ (by dsimp only; omega)
  have hm27 : M27.1 1 0 = p := by rw [hc27.2 1 0 (by simp)]; exact hm14
  obtain ⟨V, hV⟩ : ∃ V : Nat → Int, V = fun i => if i < m then M27.1 15 i % p else 0 := ⟨_, rfl⟩
  have hVb : ∀ i, 0 ≤ V i ∧ V i < p := fun i => by
    rw [hV]; dsimp only
    split
    · exact ⟨Int.emod_nonneg _ (by omega), Int.emod_lt_of_pos _ (by omega)⟩
    · omega
  have hL3 : lpF (l_X3_multiply_151 m d) n (M27, 0) = some (wrM M27 d 0 11 V) := by
    have e := lp_for (step := l_X3_multiply_151 m d) (fun k => (wrM M27 d 0 k V, (k : Int))) (wrM M27 d 0 11 V) 11 n (fun k hk => by
      have q1 : (wrM M27 d 0 k V).1 15 k = M27.1 15 k := by rw [wrM_1, if_neg (fun z => hd15 z.1.symm)]
      have q2 : (wrM M27 d 0 k V).1 1 0 = p := by rw [wrM_1, if_neg (fun z => row_ne hd z.1.symm)]; exact hm27
      have hx := nz_le.mp (hX27 k (by omega))
      have e32 : (Option.bind (gI (k : Int) (m : Int)) fun _ => if (m : Int) ≤ k then some (0) else Option.bind (odJ (wrM M27 d 0 k V) 15 (k : Int)) fun v30 => Option.bind (f_J9_floorMod_f86c9 v30 ((wrM M27 d 0 k V).1 1 0)) fun v31 => some v31) = some (V k) := by
        rw [gI_s (by omega) (by omega), bs, hV]
        dsimp only
        by_cases z : (m : Int) ≤ k
        · rw [if_pos z, if_neg (by omega)]
        · rw [if_neg z, if_pos (by omega), odJ_n (k := 15) k rfl rfl (show k < 21 by omega), bs, ← hV, q1, q2, j_floorMod (by omega) (by omega), bs]
      unfold l_X3_multiply_151
      dsimp only
      rw [gI_s (by omega) (by omega), bs, if_neg (by omega), e32, bs, osJ_n k hd.1 rfl (by rw [hd.2]; omega), bs]
      have := wrM_s M27 d 0 k V
      rw [Nat.zero_add] at this
      rw [this]
      rfl) (by
      unfold l_X3_multiply_151
      dsimp only
      rw [gI_s (by omega) (by omega), bs, if_pos (by omega)]) (by omega)
    rw [wrM_0] at e
    exact e
  refine ⟨wrM M27 d 0 11 V, q, r, ?_, ok_wrM hok27 (fun i _ => by have := hVb i; omega), chJ_mono (chJ_trans hc1 (chJ_trans hc14 (chJ_trans hc27 (chJ_wr M27 d 0 11 V)))) (fun x hx => by simp at hx ⊢; omega), hqr, by omega, fun i hi => ?_, by omega⟩
  · unfold f_X3_multiply
    rw [em, e1, bs, hL1, bs, hL2, bs, hL3, bs]
  · rw [wrM_1, if_pos (by omega), Nat.sub_zero]
    refine ⟨(hVb i).1, (hVb i).2, ?_⟩
    rw [hV]; dsimp only
    by_cases z : i < m
    · rw [if_pos z, red_md hφ]; exact hv27 i z
    · rw [if_neg z, nu_hi K r (by omega)]; exact red_zero hφ
end MCls5
