/-! a million shifts part any two constants -/
section MShift
theorem euler {R : Type} [Lean.Grind.CommRing R] {p M : Nat} (h : isZp R p) (hM : p = 2 * M + 1) {z : R} (hz : z ^ M = 1) : ∃ w, w * w = z := by
  apply Classical.byContradiction
  intro hn
  have hp := h.1.1
  have hD := isF_D h.2.2.1
  have hs : ∀ y : R, sm (fun i => (if i = M then 1 else if i = 0 then -1 else 0) * y ^ i) (M + 1) = y ^ M - 1 := by
    intro y
    rw [sm_succ, sm_one (k := 0) (by omega) (fun i hi hne => by rw [if_neg (by omega), if_neg hne]; grind), if_neg (by omega), if_pos rfl, if_pos rfl, pw_zero]
    grind
  refine rootb (zero_pr hD) M (fun i => if i = M then 1 else if i = 0 then -1 else 0) (fun j => if j = M then z else nt (j + 1) * nt (j + 1)) ?_ (fun j hj => ?_) (fun j k hjk hk => ?_)
  · rintro ⟨c, hc⟩
    rw [if_pos rfl] at hc
    exact h.2.2.1.1 (by grind)
  · rw [hs]
    by_cases q : j = M
    · rw [if_pos q, hz]; exact ⟨0, by grind⟩
    · rw [if_neg q, pw_mm, ← pw_add, show M + M = p - 1 by omega, fermat1 h (h.2.2.2.2 (j + 1) (by omega) (by omega))]; exact ⟨0, by grind⟩
  · rintro ⟨c, hc⟩
    rw [if_neg (show ¬ j = M by omega)] at hc
    by_cases q : k = M
    · rw [if_pos q] at hc
      exact hn ⟨nt (j + 1), by grind⟩
    · rw [if_neg q] at hc
      have e : (nt (j + 1) - nt (k + 1)) * (nt (j + 1) + nt (k + 1)) = (0 : R) := by grind
      rcases hD _ _ e with e | e
      · exact nt_inj h (show j + 1 < k + 1 by omega) (by omega) e
      · rw [← nt_add] at e
        exact h.2.2.2.2 (j + 1 + (k + 1)) (by omega) (by omega) e
noncomputable def mA {R : Type} [Lean.Grind.CommRing R] (a : Nat → R) (L : Nat) (x : R) : Int := sm (fun i => dl x (a i)) L
theorem mA_at {R : Type} [Lean.Grind.CommRing R] {a : Nat → R} {L : Nat} (ha : ∀ i j, i < j → j < L → a i ≠ a j) {i : Nat} (hi : i < L) : mA a L (a i) = 1 := by
  unfold mA
  rw [sm_one (k := i) hi (fun j hj hne => dl_f (fun q => ?_)), dl_t rfl]
  rcases Nat.lt_or_gt_of_ne hne with z | z
  · exact ha j i z hi q.symm
  · exact ha i j z hj q
theorem mA_le {R : Type} [Lean.Grind.CommRing R] {a : Nat → R} {L : Nat} (ha : ∀ i j, i < j → j < L → a i ≠ a j) (x : R) : mA a L x ≤ 1 := by
  by_cases h : ∃ i, i < L ∧ x = a i
  · obtain ⟨i, hi, rfl⟩ := h
    rw [mA_at ha hi]; omega
  · unfold mA
    rw [sm_zero (fun i hi => dl_f (fun q => h ⟨i, hi, q⟩))]; omega
theorem mA_push {R : Type} [Lean.Grind.CommRing R] {p : Nat} (h : isZp R p) (a : Nat → R) (L : Nat) (G : R → Int) : sF p (fun x => mA a L x * G x) = sm (fun i => G (a i)) L := by
  have h1 : sF p (fun x => mA a L x * G x) = sm (fun n => sm (fun i => dl (nt n) (a i) * G (nt n)) L) p := sm_congr (fun n _ => by
    show mA a L (nt n) * G (nt n) = _
    unfold mA; rw [← sm_mulr])
  rw [h1, sm_swap (fun n i => dl (nt n) (a i) * G (nt n))]
  exact sm_congr (fun i _ => sF_dl h (a i) G)
theorem mA_sum {R : Type} [Lean.Grind.CommRing R] {p : Nat} (h : isZp R p) (a : Nat → R) (L : Nat) : sF p (mA a L) = L := by
  have h1 := mA_push h a L (fun _ => 1)
  rw [sm_const] at h1
  rw [sF_congr (H := fun x => mA a L x * 1) (fun x => by omega), h1]; omega
theorem mA_sq {R : Type} [Lean.Grind.CommRing R] {p : Nat} (h : isZp R p) {a : Nat → R} {L : Nat} (ha : ∀ i j, i < j → j < L → a i ≠ a j) : sF p (fun x => mA a L x * mA a L x) = L := by
  rw [mA_push h a L (mA a L), sm_congr (g := fun _ => 1) (fun i hi => mA_at ha hi), sm_const]; omega
theorem f0_sum {R : Type} [Lean.Grind.CommRing R] {p : Nat} (h : isZp R p) (a : Nat → R) (L : Nat) : sF p (fun x => (p : Int) * mA a L x - L) = 0 := by
  rw [sF_sub, sF_mul, mA_sum h, sF_const]; omega
theorem f0_sq {R : Type} [Lean.Grind.CommRing R] {p : Nat} (h : isZp R p) {a : Nat → R} {L : Nat} (ha : ∀ i j, i < j → j < L → a i ≠ a j) : sF p (fun x => ((p : Int) * mA a L x - L) * ((p : Int) * mA a L x - L)) = p * L * (p - L) := by
  rw [sF_congr (H := fun x => ((p : Int) * p * (mA a L x * mA a L x) - 2 * (p * L) * mA a L x) + L * L) (fun x => by grind), sF_add, sF_sub, sF_mul, sF_mul, mA_sq h ha, mA_sum h, sF_const]; grind
/-- the number of solutions, and the bound for it -/
theorem cnt_bd {R : Type} [Lean.Grind.CommRing R] {p : Nat} (h : isZp R p) {d : R} (hd : d ≠ 0) {a b : Nat → R} {L : Nat} (ha : ∀ i j, i < j → j < L → a i ≠ a j) (hb : ∀ i j, i < j → j < L → b i ≠ b j) {C : Int} (hC : sm (fun j => sm (fun i => sF p (fun y => nzi y * dl (b j + (y + d * iv y)) (a i))) L) L = C) :
    let Q : Int := p * p * C - p * (p - 1) * (L * L)
    Q * Q * (Q * Q) ≤ 4 * (p * p * p) * (p * L * (p - L) * (p * L * (p - L)) * (p * L * (p - L) * (p * L * (p - L)))) := by
  intro Q
  have hU : ∀ z : R, sF p (fun y => nzi y * ((p : Int) * mA a L (z + (y + d * iv y)) - L)) = p * sF p (fun y => nzi y * mA a L (z + (y + d * iv y))) - L * (p - 1) := by
    intro z
    rw [← nzi_sum h, ← sF_mul, ← sF_mul, ← sF_sub]
    exact sF_congr (fun y => by grind)
  have hN : sF p (fun z => mA b L z * sF p (fun y => nzi y * mA a L (z + (y + d * iv y)))) = C := by
    rw [mA_push h b L, ← hC]
    refine sm_congr (fun j _ => ?_)
    have h1 : sF p (fun y => nzi y * mA a L (b j + (y + d * iv y))) = sm (fun n => sm (fun i => nzi (nt n : R) * dl (b j + (nt n + d * iv (nt n))) (a i)) L) p := sm_congr (fun n _ => by
      show nzi (nt n) * mA a L (b j + (nt n + d * iv (nt n))) = _
      unfold mA; rw [← sm_mul])
    rw [h1, sm_swap]
    exact sm_congr (fun i _ => rfl)
  have hUs : sF p (fun z => sF p (fun y => nzi y * mA a L (z + (y + d * iv y)))) = (p - 1) * L := by
    rw [sF_swap, sF_congr (H := fun y : R => (L : Int) * nzi y) (fun y => ?_), sF_mul, nzi_sum h]
    · grind
    · have h2 := sF_aff h h.2.2.1.1 (y + d * iv y) (mA a L)
      rw [sF_mul, sF_congr (H := fun z => mA a L (1 * z + (y + d * iv y))) (fun z => by rw [show z + (y + d * iv y) = 1 * z + (y + d * iv y) by grind]), h2, mA_sum h]; grind
  have hQ : sF p (fun z => ((p : Int) * mA b L z - L) * sF p (fun y => nzi y * ((p : Int) * mA a L (z + (y + d * iv y)) - L))) = Q := by
    rw [sF_congr (H := fun z => ((p : Int) * p * (mA b L z * sF p (fun y => nzi y * mA a L (z + (y + d * iv y)))) - p * L * (p - 1) * mA b L z - p * L * sF p (fun y => nzi y * mA a L (z + (y + d * iv y)))) + L * L * (p - 1)) (fun z => by rw [hU]; grind), sF_add, sF_sub, sF_sub, sF_mul, sF_mul, sF_mul, hN, hUs, mA_sum h, sF_const]
    show _ = (p : Int) * p * C - p * (p - 1) * (L * L)
    grind
  have h1 := cauchy (isL_sF (R := R) p) (fun z => (p : Int) * mA b L z - L) (fun z => sF p (fun y => nzi y * ((p : Int) * mA a L (z + (y + d * iv y)) - L)))
  rw [hQ, f0_sq h hb] at h1
  have h2 := tau_bd h hd (f := fun x => (p : Int) * mA a L x - L) (f0_sum h a L)
  rw [f0_sq h ha] at h2
  have h3 : sF p (fun z => sF p (fun y => nzi y * ((p : Int) * mA a L (z + (y + d * iv y)) - L)) * sF p (fun y => nzi y * ((p : Int) * mA a L (z + (y + d * iv y)) - L))) = tau p d (fun x => (p : Int) * mA a L x - L) := rfl
  rw [h3] at h1
  generalize tau p d (fun x => (p : Int) * mA a L x - L) = t at *
  generalize (p : Int) * L * (p - L) = G at *
  have h4 : Q * Q * (Q * Q) ≤ G * t * (G * t) := Int.mul_le_mul h1 h1 (sq0 Q) (by have := sq0 Q; omega)
  have h5 : G * t * (G * t) = G * G * (t * t) := by grind
  have h6 : G * G * (t * t) ≤ G * G * (4 * (p * p * p) * (G * G)) := Int.mul_le_mul_of_nonneg_left h2 (sq0 G)
  have h7 : G * G * (4 * ((p : Int) * p * p) * (G * G)) = 4 * (p * p * p) * (G * G * (G * G)) := by grind
  omega
theorem shifts {R : Type} [Lean.Grind.CommRing R] {p : Nat} (h : isZp R p) (hlo : 16777216 ≤ p) (hhi : p ≤ 16778000) {b c : R} (hne : b ≠ c) : ∃ s, s < 1000000 ∧ ¬ ((b + nt s) ^ ((p - 1) / 2) = 1 ↔ (c + nt s) ^ ((p - 1) / 2) = 1) := by
  apply Classical.byContradiction
  intro hn
  have hF := h.2.2.1
  have hDm := isF_D hF
  have hall : ∀ s, s < 1000000 → ((b + nt s) ^ ((p - 1) / 2) = 1 ↔ (c + nt s) ^ ((p - 1) / 2) = 1) := fun s hs => Classical.byContradiction (fun q => hn ⟨s, hs, q⟩)
  have hodd : p % 2 = 1 := by
    rcases Nat.mod_two_eq_zero_or_one p with q | q
    · rcases h.1.2 2 (Nat.dvd_of_mod_eq_zero q) with z | z <;> omega
    · exact q
  obtain ⟨M, hM⟩ : ∃ M, p = 2 * M + 1 := ⟨p / 2, by omega⟩
  have hM2 : (p - 1) / 2 = M := by omega
  rw [hM2] at hall
  obtain ⟨D, hD⟩ : ∃ D, D = c - b := ⟨_, rfl⟩
  have hD0 : D ≠ 0 := fun q => hne (by grind)
  obtain ⟨i2, hi2⟩ := hF.2 (nt 2) (h.2.2.2.2 2 (by omega) (by omega))
  have hi : i2 + i2 = 1 := by rw [nt_succ, nt_one] at hi2; grind
  have hi0 : i2 ≠ 0 := fun q => by rw [q] at hi; exact hF.1 (by grind)
  obtain ⟨d, hd⟩ : ∃ d, d = D * i2 * (D * i2) := ⟨_, rfl⟩
  have hDi : D * i2 ≠ 0 := fun q => by rcases hDm _ _ q with z | z
                                       · exact hD0 z
                                       · exact hi0 z
  have hd0 : d ≠ 0 := fun q => by rw [hd] at q; rcases hDm _ _ q with z | z <;> exact hDi z
  obtain ⟨L, hL⟩ : ∃ L, L = 500000 := ⟨_, rfl⟩
  have h2n : ∀ x : R, x + x = 0 → x = 0 := fun x q => by
    have : x = (x + x) * i2 := by grind
    rw [this, q]; grind
  have hA : ∀ i j, i < j → j < L → (b + nt (L - 1) + nt i) + (b + nt (L - 1) + nt i) + D ≠ (b + nt (L - 1) + nt j) + (b + nt (L - 1) + nt j) + D := fun i j hij hj q => nt_inj h hij (by omega) (h2n _ (by grind))
  have hB : ∀ i j, i < j → j < L → (nt i + nt i : R) ≠ nt j + nt j := fun i j hij hj q => nt_inj h hij (by omega) (h2n _ (by grind))
  have hbd := cnt_bd h hd0 (a := fun i => (b + nt (L - 1) + nt i) + (b + nt (L - 1) + nt i) + D) (b := fun j => nt j + nt j) hA hB rfl
  dsimp only at hbd
  -- at least two solutions but for two places
  have hV : ∀ i j, i < L → j < L → 2 - 2 * dl (b + nt (L - 1) + nt i - nt j) 0 - 2 * dl (b + nt (L - 1) + nt i - nt j) (-D) ≤ sF p (fun y => nzi y * dl (nt j + nt j + (y + d * iv y)) ((b + nt (L - 1) + nt i) + (b + nt (L - 1) + nt i) + D)) := by
    intro i j hi1 hj1
    obtain ⟨x, hx⟩ : ∃ x, x = b + nt (L - 1) + nt i - nt j := ⟨_, rfl⟩
    rw [← hx]
    have hnn : 0 ≤ sF p (fun y => nzi y * dl (nt j + nt j + (y + d * iv y)) ((b + nt (L - 1) + nt i) + (b + nt (L - 1) + nt i) + D)) := sF_nn (fun y => Int.mul_nonneg (nzi_01 y).1 (dl_01 _ _).1)
    by_cases hx0 : x = 0
    · rw [dl_t hx0]
      have := dl_01 x (-D)
      omega
    by_cases hxD : x = -D
    · rw [dl_t hxD]
      have := dl_01 x 0
      omega
    rw [dl_f hx0, dl_f hxD]
    have hxs : x = b + nt (L - 1 + i - j) := by
      have e : (nt (L - 1) + nt i : R) = nt (L - 1 + i - j) + nt j := by rw [← nt_add, ← nt_add, show L - 1 + i - j + j = L - 1 + i by omega]
      rw [hx]; grind
    have hxD2 : x + D = c + nt (L - 1 + i - j) := by rw [hxs, hD]; grind
    have hiff := hall (L - 1 + i - j) (by omega)
    rw [← hxs, ← hxD2] at hiff
    have hpm : ∀ y : R, y ≠ 0 → y ^ M = 1 ∨ y ^ M = -1 := by
      intro y hy
      have h1 := fermat1 h hy
      rw [show p - 1 = M + M by omega, pw_add] at h1
      rcases hDm (y ^ M - 1) (y ^ M + 1) (by grind) with z | z
      · exact Or.inl (by grind)
      · exact Or.inr (by grind)
    have hprod : (x * (x + D)) ^ M = 1 := by
      rw [pw_mm]
      rcases hpm x hx0 with z | z
      · rw [hiff.mp z, z]; grind
      · rcases hpm (x + D) (fun q => hxD (by grind)) with y | y
        · rw [hiff.mpr y, y]; grind
        · rw [z, y]; grind
    obtain ⟨w, hw⟩ := euler h hM hprod
    have hw0 : w ≠ 0 := by
      intro q
      rw [q] at hw
      rcases hDm x (x + D) (by grind) with z | z
      · exact hx0 z
      · exact hxD (by grind)
    -- the two solutions
    have hyy : (x + D * i2 + w) * (x + D * i2 - w) = d := by
      have e : (x + D * i2 + w) * (x + D * i2 - w) = x * x + x * D * (i2 + i2) + D * i2 * (D * i2) - w * w := by grind
      rw [e, hi, hd, hw]; grind
    have hy1 : x + D * i2 + w ≠ 0 := fun q => hd0 (by rw [← hyy, q]; grind)
    have hy2 : x + D * i2 - w ≠ 0 := fun q => hd0 (by rw [← hyy, q]; grind)
    have hne12 : x + D * i2 + w ≠ x + D * i2 - w := fun q => hw0 (h2n w (by grind))
    have hX : nt j + nt j + (x + D * i2 + w + (x + D * i2 - w)) = (b + nt (L - 1) + nt i) + (b + nt (L - 1) + nt i) + D := by
      have e : x + D * i2 + w + (x + D * i2 - w) = x + x + D * (i2 + i2) := by grind
      rw [e, hi, hx]; grind
    have hk1 : d * iv (x + D * i2 + w) = x + D * i2 - w := by
      have := iv_mul hF hy1
      rw [← hyy]; grind
    have hk2 : d * iv (x + D * i2 - w) = x + D * i2 + w := by
      have := iv_mul hF hy2
      rw [← hyy]; grind
    have hge : sF p (fun y => dl y (x + D * i2 + w) + dl y (x + D * i2 - w)) ≤ sF p (fun y => nzi y * dl (nt j + nt j + (y + d * iv y)) ((b + nt (L - 1) + nt i) + (b + nt (L - 1) + nt i) + D)) := by
      refine sF_le (fun y => ?_)
      by_cases z1 : y = x + D * i2 + w
      · rw [dl_t z1, dl_f (fun q => hne12 (by rw [← z1]; exact q)), z1, nzi_t hy1, hk1, dl_t hX]; omega
      · by_cases z2 : y = x + D * i2 - w
        · rw [dl_f z1, dl_t z2, z2, nzi_t hy2, hk2, dl_t (by rw [← hX]; grind)]; omega
        · rw [dl_f z1, dl_f z2]
          exact Int.mul_nonneg (nzi_01 y).1 (dl_01 _ _).1
    rw [sF_add, sF_dl1 h, sF_dl1 h] at hge
    omega
  obtain ⟨C, hC⟩ : ∃ C, C = sm (fun j => sm (fun i => sF p (fun y => nzi y * dl (nt j + nt j + (y + d * iv y)) ((b + nt (L - 1) + nt i) + (b + nt (L - 1) + nt i) + D))) L) L := ⟨_, rfl⟩
  rw [← hC] at hbd
  have hbad : ∀ (e : R) (j : Nat), j < L → sm (fun i => dl (b + nt (L - 1) + nt i - nt j) e) L ≤ 1 := by
    intro e j _
    have h1 := mA_le (a := fun i => b + nt (L - 1) + nt i - nt j) (L := L) (fun i k hik hk q => nt_inj h hik (by omega) (by grind)) e
    unfold mA at h1
    rw [sm_congr (g := fun i => dl e (b + nt (L - 1) + nt i - nt j)) (fun i _ => ?_)]
    · exact h1
    · rcases Classical.em (b + nt (L - 1) + nt i - nt j = e) with z | z
      · rw [dl_t z, dl_t z.symm]
      · rw [dl_f z, dl_f (fun y => z y.symm)]
  have hCl : 2 * ((L : Int) * L) - 4 * L ≤ C := by
    rw [hC]
    have h1 : sm (fun _ => 2 * (L : Int) - 4) L ≤ sm (fun j => sm (fun i => sF p (fun y => nzi y * dl (nt j + nt j + (y + d * iv y)) ((b + nt (L - 1) + nt i) + (b + nt (L - 1) + nt i) + D))) L) L := by
      refine sm_le (fun j hj => ?_)
      refine Int.le_trans ?_ (sm_le (fun i hi => hV i j hi hj))
      rw [sm_sub, sm_sub, sm_mul, sm_mul, sm_const]
      have a1 := hbad 0 j hj
      have a2 := hbad (-D) j hj
      omega
    rw [sm_const] at h1
    have e : (L : Int) * (2 * L - 4) = 2 * (L * L) - 4 * L := by grind
    omega
  -- numbers
  have hLi : (L : Int) = 500000 := by omega
  rw [hLi] at hbd hCl
  obtain ⟨q, hq⟩ : ∃ q : Int, (p : Int) = q := ⟨_, rfl⟩
  rw [hq] at hbd
  have hq1 : 16777216 ≤ q := by omega
  have hq2 : q ≤ 16778000 := by omega
  have hqq : 0 ≤ q * q := sq0 q
  have hQ : q * 500000 * (q * 499996) ≤ q * q * C - q * (q - 1) * (500000 * 500000) := by
    have h1 : q * q * (2 * (500000 * 500000) - 4 * 500000) ≤ q * q * C := Int.mul_le_mul_of_nonneg_left hCl hqq
    have e : q * q * (2 * (500000 * 500000) - 4 * 500000) - q * (q - 1) * (500000 * 500000) = q * 500000 * (q * 499996) + 250000000000 * q := by grind
    omega
  generalize q * q * C - q * (q - 1) * (500000 * 500000) = Q at *
  have hW0 : 0 ≤ q * 500000 * (q * 499996) := by
    have e : q * 500000 * (q * 499996) = 249998000000 * (q * q) := by grind
    omega
  have h3 : q * 500000 * (q * 499996) * (q * 500000 * (q * 499996)) ≤ Q * Q := Int.mul_le_mul hQ hQ hW0 (by omega)
  have h4 : q * 500000 * (q * 499996) * (q * 500000 * (q * 499996)) * (q * 500000 * (q * 499996) * (q * 500000 * (q * 499996))) ≤ Q * Q * (Q * Q) := Int.mul_le_mul h3 h3 (sq0 _) (sq0 _)
  have h5 := Int.le_trans h4 hbd
  have hG : q * 500000 * (q - 500000) * (q * 500000 * (q - 500000)) ≤ q * 500000 * q * (q * 500000 * q) := by
    have g1 : 0 ≤ q * 500000 * (q - 500000) := Int.mul_nonneg (by omega) (by omega)
    have g2 : q * 500000 * (q - 500000) ≤ q * 500000 * q := Int.mul_le_mul_of_nonneg_left (by omega) (by omega)
    exact Int.mul_le_mul g2 g2 g1 (by omega)
  have hG2 := Int.mul_le_mul hG hG (sq0 _) (sq0 _)
  have hqqq : 0 ≤ 4 * (q * q * q) := by
    have := Int.mul_nonneg hqq (show 0 ≤ q by omega)
    omega
  have h6 := Int.le_trans h5 (Int.mul_le_mul_of_nonneg_left hG2 hqqq)
  have e1 : q * 500000 * (q * 499996) * (q * 500000 * (q * 499996)) * (q * 500000 * (q * 499996) * (q * 500000 * (q * 499996))) = (q * 500000 * (q * 500000) * (q * 500000 * (q * 500000)) * (q * q * (q * q))) * (499996 * 499996 * (499996 * 499996)) := by grind
  have e2 : 4 * (q * q * q) * (q * 500000 * q * (q * 500000 * q) * (q * 500000 * q * (q * 500000 * q))) = (q * 500000 * (q * 500000) * (q * 500000 * (q * 500000)) * (q * q * (q * q))) * (4 * (q * q * q)) := by grind
  rw [e1, e2] at h6
  have hpos : 0 < q * 500000 * (q * 500000) * (q * 500000 * (q * 500000)) * (q * q * (q * q)) := by
    have p1 : 0 < q * 500000 := by omega
    have p2 := Int.mul_pos p1 p1
    have p3 := Int.mul_pos (show 0 < q by omega) (show 0 < q by omega)
    exact Int.mul_pos (Int.mul_pos p2 p2) (Int.mul_pos p3 p3)
  have h7 := Int.le_of_mul_le_mul_left h6 hpos
  have h8 : q * q ≤ 16778000 * 16778000 := Int.mul_le_mul hq2 hq2 (by omega) (by omega)
  have h9 : q * q * q ≤ 16778000 * 16778000 * 16778000 := Int.mul_le_mul h8 hq2 (by omega) (by omega)
  omega
end MShift
