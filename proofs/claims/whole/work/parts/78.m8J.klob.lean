/-! the fourth moment -/
section MKlob
noncomputable def iv {R : Type} [Lean.Grind.CommRing R] (x : R) : R := @dite _ (∃ b, x * b = 1) (Classical.propDecidable _) (fun h => Classical.choose h) (fun _ => 0)
theorem iv_mul {R : Type} [Lean.Grind.CommRing R] (hF : isF R) {x : R} (hx : x ≠ 0) : x * iv x = 1 := by
  have h := hF.2 x hx
  unfold iv
  rw [dif_pos h]
  exact Classical.choose_spec h
theorem iv_ne {R : Type} [Lean.Grind.CommRing R] (hF : isF R) {x : R} (hx : x ≠ 0) : iv x ≠ 0 := by
  intro q
  have := iv_mul hF hx
  rw [q] at this
  exact hF.1 (by grind)
theorem iv_u {R : Type} [Lean.Grind.CommRing R] (hF : isF R) {x y : R} (h : x * y = 1) : y = iv x := by
  have hx : x ≠ 0 := by intro q; rw [q] at h; exact hF.1 (by grind)
  have := iv_mul hF hx
  grind
theorem iv_mm {R : Type} [Lean.Grind.CommRing R] (hF : isF R) {x y : R} (hx : x ≠ 0) (hy : y ≠ 0) : iv (x * y) = iv x * iv y := by
  have h1 := iv_mul hF hx
  have h2 := iv_mul hF hy
  exact (iv_u hF (by grind)).symm
noncomputable def nzi {R : Type} [Lean.Grind.CommRing R] (x : R) : Int := 1 - dl x 0
theorem nzi_t {R : Type} [Lean.Grind.CommRing R] {x : R} (h : x ≠ 0) : nzi x = 1 := by unfold nzi; rw [dl_f h]; omega
theorem nzi_f {R : Type} [Lean.Grind.CommRing R] {x : R} (h : x = 0) : nzi x = 0 := by unfold nzi; rw [dl_t h]; omega
theorem nzi_01 {R : Type} [Lean.Grind.CommRing R] (x : R) : 0 ≤ nzi x ∧ nzi x ≤ 1 := by have := dl_01 x 0; unfold nzi; omega
theorem nzi_sum {R : Type} [Lean.Grind.CommRing R] {p : Nat} (h : isZp R p) : sF p (nzi : R → Int) = p - 1 := by
  have : sF p (nzi : R → Int) = sF p (fun x : R => 1 - dl x 0) := rfl
  rw [this, sF_sub, sF_const, sF_dl1 h]; omega
def s2 {R : Type} [Lean.Grind.CommRing R] (p : Nat) (G : R → R → Int) : Int := sF p (fun u => sF p (fun v => G u v))
theorem s2_congr {R : Type} [Lean.Grind.CommRing R] {p : Nat} {G H : R → R → Int} (h : ∀ x y, G x y = H x y) : s2 p G = s2 p H := sF_congr (fun x => sF_congr (fun y => h x y))
theorem s2_add {R : Type} [Lean.Grind.CommRing R] (p : Nat) (G H : R → R → Int) : s2 p (fun x y => G x y + H x y) = s2 p G + s2 p H := by
  unfold s2; rw [← sF_add]; exact sF_congr (fun x => sF_add p _ _)
theorem s2_sub {R : Type} [Lean.Grind.CommRing R] (p : Nat) (G H : R → R → Int) : s2 p (fun x y => G x y - H x y) = s2 p G - s2 p H := by
  unfold s2; rw [← sF_sub]; exact sF_congr (fun x => sF_sub p _ _)
theorem s2_mul {R : Type} [Lean.Grind.CommRing R] (p : Nat) (c : Int) (G : R → R → Int) : s2 p (fun x y => c * G x y) = c * s2 p G := by
  unfold s2; rw [← sF_mul]; exact sF_congr (fun x => sF_mul p c _)
theorem s2_const {R : Type} [Lean.Grind.CommRing R] (p : Nat) (c : Int) : s2 (R := R) p (fun _ _ => c) = p * p * c := by
  unfold s2; rw [sF_congr (fun _ => sF_const p c), sF_const]; grind
theorem s2_le {R : Type} [Lean.Grind.CommRing R] {p : Nat} {G H : R → R → Int} (h : ∀ x y, G x y ≤ H x y) : s2 p G ≤ s2 p H := sF_le (fun x => sF_le (fun y => h x y))
theorem s2_prod {R : Type} [Lean.Grind.CommRing R] (p : Nat) (a b : R → Int) : s2 p (fun x y => a x * b y) = sF p a * sF p b := by
  unfold s2
  rw [sF_congr (fun x => sF_mul p (a x) b), sF_congr (H := fun x => sF p b * a x) (fun x => by grind), sF_mul]; grind
theorem s2_sw1 {R : Type} [Lean.Grind.CommRing R] (p : Nat) (G : R → R → Int) : s2 p G = s2 p (fun y x => G x y) := sF_swap p G
theorem s2_sF {R : Type} [Lean.Grind.CommRing R] (p : Nat) (H : R → R → R → Int) : s2 p (fun s t => sF p (fun x => H s t x)) = sF p (fun x => s2 p (fun s t => H s t x)) := by
  unfold s2
  rw [sF_congr (fun s => sF_swap p (fun t x => H s t x)), sF_swap p (fun s x => sF p (fun t => H s t x))]
theorem s2_swap {R : Type} [Lean.Grind.CommRing R] (p : Nat) (H : R → R → R → R → Int) : s2 p (fun s t => s2 p (fun x y => H s t x y)) = s2 p (fun x y => s2 p (fun s t => H s t x y)) := by
  have h1 : s2 p (fun s t => s2 p (fun x y => H s t x y)) = sF p (fun x => s2 p (fun s t => sF p (fun y => H s t x y))) := s2_sF p (fun s t x => sF p (fun y => H s t x y))
  rw [h1]
  exact sF_congr (fun x => s2_sF p (fun s t y => H s t x y))
theorem s2_dl {R : Type} [Lean.Grind.CommRing R] {p : Nat} (h : isZp R p) (a b : R) (G : R → R → Int) : s2 p (fun s t => dl s a * dl t b * G s t) = G a b := by
  unfold s2
  have h1 : ∀ s, sF p (fun t => dl s a * dl t b * G s t) = dl s a * G s b := by
    intro s
    rw [sF_congr (H := fun t => dl s a * (dl t b * G s t)) (fun t => by grind), sF_mul, sF_dl h b]
  rw [sF_congr h1, sF_dl h a (fun s => G s b)]
noncomputable def n2 {R : Type} [Lean.Grind.CommRing R] (p : Nat) (s t : R) : Int := s2 p (fun x y => nzi x * nzi y * (dl s (y - x) * dl t (iv y - iv x)))
theorem n2_push {R : Type} [Lean.Grind.CommRing R] {p : Nat} (h : isZp R p) (G : R → R → Int) : s2 p (fun s t => n2 p s t * G s t) = s2 p (fun x y => nzi x * nzi y * G (y - x) (iv y - iv x)) := by
  have h1 : s2 p (fun s t => n2 p s t * G s t) = s2 p (fun s t => s2 p (fun x y => nzi x * nzi y * (dl s (y - x) * dl t (iv y - iv x) * G s t))) := by
    refine s2_congr (fun s t => ?_)
    unfold n2
    rw [show ∀ A B : Int, A * B = B * A from fun A B => by grind, ← s2_mul]
    exact s2_congr (fun x y => by grind)
  rw [h1, s2_swap]
  refine s2_congr (fun x y => ?_)
  rw [s2_mul, s2_dl h]
theorem n2_sum {R : Type} [Lean.Grind.CommRing R] {p : Nat} (h : isZp R p) : s2 p (fun s t : R => n2 p s t) = (p - 1) * (p - 1) := by
  rw [show s2 p (fun s t : R => n2 p s t) = s2 p (fun s t : R => n2 p s t * 1) from s2_congr (fun s t => by omega), n2_push h (fun _ _ => 1), s2_congr (G := fun x y : R => nzi x * nzi y * 1) (H := fun x y => nzi x * nzi y) (fun x y => by omega), s2_prod, nzi_sum h]
theorem n2_at {R : Type} [Lean.Grind.CommRing R] {p : Nat} (h : isZp R p) {x y : R} (hx : x ≠ 0) (hy : y ≠ 0) : n2 p (y - x) (iv y - iv x) ≤ (p - 1) * dl x y + 2 * (1 - dl x y) := by
  have hF := h.2.2.1
  by_cases hxy : x = y
  · rw [dl_t hxy, hxy]
    have h1 : n2 p (y - y) (iv y - iv y) ≤ s2 p (fun x' y' : R => nzi x' * dl y' x') := by
      unfold n2
      refine s2_le (fun a b => ?_)
      have a1 := nzi_01 a
      have a2 := nzi_01 b
      have a3 := dl_01 (iv y - iv y) (iv b - iv a)
      by_cases q : b = a
      · rw [dl_t q, dl_t (show y - y = b - a by rw [q]; grind)]
        have e : nzi a * nzi b * (1 * dl (iv y - iv y) (iv b - iv a)) = nzi a * (nzi b * dl (iv y - iv y) (iv b - iv a)) := by grind
        rw [e]
        refine Int.mul_le_mul_of_nonneg_left ?_ a1.1
        have := Int.mul_le_mul a2.2 a3.2 a3.1 (show (0 : Int) ≤ 1 by omega)
        omega
      · rw [dl_f (show y - y ≠ b - a from fun z => q (by grind)), dl_f q]; omega
    have h2 : s2 p (fun x' y' : R => nzi x' * dl y' x') = p - 1 := by
      unfold s2
      rw [← nzi_sum h]
      exact sF_congr (fun x' => by rw [sF_mul, sF_dl1 h]; omega)
    omega
  · rw [dl_f hxy]
    have h1 : n2 p (y - x) (iv y - iv x) ≤ s2 p (fun x' y' : R => dl x' x * dl y' y + dl x' (-y) * dl y' (-x)) := by
      unfold n2
      refine s2_le (fun a b => ?_)
      have r0 : 0 ≤ dl a x * dl b y + dl a (-y) * dl b (-x) := by
        have := Int.mul_nonneg (dl_01 a x).1 (dl_01 b y).1
        have := Int.mul_nonneg (dl_01 a (-y)).1 (dl_01 b (-x)).1
        omega
      by_cases ha : a = 0
      · rw [nzi_f ha]; omega
      by_cases hb : b = 0
      · rw [nzi_f hb]; omega
      by_cases q1 : y - x = b - a
      · by_cases q2 : iv y - iv x = iv b - iv a
        · rw [nzi_t ha, nzi_t hb, dl_t q1, dl_t q2]
          have i1 := iv_mul hF hx
          have i2 := iv_mul hF hy
          have i3 := iv_mul hF ha
          have i4 := iv_mul hF hb
          -- a b = x y
          have e1 : (y - x) * (a * b - x * y) = 0 := by
            have e2 : (iv y - iv x) * (x * y) = x - y := by grind
            have e3 : (iv b - iv a) * (a * b) = a - b := by grind
            have e4 : (x - y) * (a * b) = (a - b) * (x * y) := by
              have : (iv y - iv x) * (x * y) * (a * b) = (iv b - iv a) * (a * b) * (x * y) := by rw [q2]; grind
              rw [e2, e3] at this
              exact this
            grind
          have e5 : a * b = x * y := by
            rcases isF_D hF _ _ e1 with z | z
            · exact absurd (by grind) hxy
            · grind
          have e6 : (a - x) * (a + y) = 0 := by grind
          rcases isF_D hF _ _ e6 with z | z
          · have z1 : a = x := by grind
            have z2 : b = y := by grind
            rw [dl_t z1, dl_t z2]
            have := Int.mul_nonneg (dl_01 a (-y)).1 (dl_01 b (-x)).1
            omega
          · have z1 : a = -y := by grind
            have z2 : b = -x := by grind
            rw [dl_t z1, dl_t z2]
            have := Int.mul_nonneg (dl_01 a x).1 (dl_01 b y).1
            omega
        · rw [dl_f q2]; omega
      · rw [dl_f q1]; omega
    have h2 : s2 p (fun x' y' : R => dl x' x * dl y' y + dl x' (-y) * dl y' (-x)) = 2 := by
      rw [s2_add, s2_prod p (fun a => dl a x) (fun b => dl b y), s2_prod p (fun a => dl a (-y)) (fun b => dl b (-x)), sF_dl1 h, sF_dl1 h, sF_dl1 h, sF_dl1 h]; omega
    omega
theorem n2_E {R : Type} [Lean.Grind.CommRing R] {p : Nat} (h : isZp R p) : s2 p (fun s t : R => n2 p s t * n2 p s t) ≤ (p - 1) * (3 * p - 5) := by
  rw [n2_push h (fun s t => n2 p s t)]
  have hp := h.1.1
  have h1 : s2 p (fun x y : R => nzi x * nzi y * n2 p (y - x) (iv y - iv x)) ≤ s2 p (fun x y : R => (p - 3) * (nzi x * dl y x) + 2 * (nzi x * nzi y)) := by
    refine s2_le (fun x y => ?_)
    by_cases hx : x = 0
    · rw [nzi_f hx]; omega
    by_cases hy : y = 0
    · have : dl y x = 0 := dl_f (fun q => hx (by rw [← q]; exact hy))
      rw [nzi_f hy, this]; omega
    rw [nzi_t hx, nzi_t hy]
    have := n2_at h hx hy
    have e : dl y x = dl x y := by
      rcases Classical.em (x = y) with q | q
      · rw [dl_t q, dl_t q.symm]
      · rw [dl_f q, dl_f (fun z => q z.symm)]
    rw [e]
    have e2 : ((p : Int) - 1) * dl x y + 2 * (1 - dl x y) = (p - 3) * (1 * dl x y) + 2 * (1 * 1) := by grind
    omega
  have h2 : s2 p (fun x y : R => (p - 3) * (nzi x * dl y x) + 2 * (nzi x * nzi y)) = (p - 3) * (p - 1) + 2 * ((p - 1) * (p - 1)) := by
    have h3 : s2 p (fun x' y' : R => nzi x' * dl y' x') = p - 1 := by
      unfold s2
      rw [← nzi_sum h]
      exact sF_congr (fun x' => by rw [sF_mul, sF_dl1 h]; omega)
    rw [s2_add, s2_mul, s2_mul, h3, s2_prod, nzi_sum h]
  have e : ((p : Int) - 3) * (p - 1) + 2 * ((p - 1) * (p - 1)) = (p - 1) * (3 * p - 5) := by grind
  omega
noncomputable def rr {R : Type} [Lean.Grind.CommRing R] (p : Nat) (f : R → Int) (z : R) : Int := sF p (fun x => f x * f (x + z))
theorem rr_sum {R : Type} [Lean.Grind.CommRing R] {p : Nat} (h : isZp R p) {f : R → Int} (hf : sF p f = 0) : sF p (rr p f) = 0 := by
  have h1 : sF p (rr p f) = sF p (fun x => sF p (fun z => f x * f (x + z))) := sF_swap p (fun z x => f x * f (x + z))
  rw [h1, sF_congr (H := fun _ : R => 0) (fun x => ?_), sF_const]
  · omega
  · have h2 := sF_aff h h.2.2.1.1 x f
    rw [sF_mul, sF_congr (H := fun z => f (1 * z + x)) (fun z => by rw [show x + z = 1 * z + x by grind]), h2, hf]; omega
theorem rr_sq {R : Type} [Lean.Grind.CommRing R] {p : Nat} (h : isZp R p) (f : R → Int) (z : R) : rr p f z * rr p f z ≤ sF p (fun x => f x * f x) * sF p (fun x => f x * f x) := by
  have h1 := cauchy (isL_sF (R := R) p) f (fun x => f (x + z))
  have h2 := sF_aff h h.2.2.1.1 z (fun x => f x * f x)
  have h3 : sF p (fun x => f (x + z) * f (x + z)) = sF p (fun x => f x * f x) := by
    rw [← h2]; exact sF_congr (fun x => by rw [show x + z = 1 * x + z by grind])
  rw [h3] at h1
  exact h1
theorem rr_pr {R : Type} [Lean.Grind.CommRing R] {p : Nat} (h : isZp R p) (f : R → Int) (z w : R) : rr p f z * rr p f w ≤ sF p (fun x => f x * f x) * sF p (fun x => f x * f x) := by
  have h1 := rr_sq h f z
  have h2 := rr_sq h f w
  have h3 := sq0 (rr p f z - rr p f w)
  have e : (rr p f z - rr p f w) * (rr p f z - rr p f w) = rr p f z * rr p f z + rr p f w * rr p f w - 2 * (rr p f z * rr p f w) := by grind
  omega
noncomputable def tau {R : Type} [Lean.Grind.CommRing R] (p : Nat) (d : R) (f : R → Int) : Int := sF p (fun z => sF p (fun y => nzi y * f (z + (y + d * iv y))) * sF p (fun y => nzi y * f (z + (y + d * iv y))))
theorem tau_eq {R : Type} [Lean.Grind.CommRing R] {p : Nat} (h : isZp R p) (d : R) (f : R → Int) : tau p d f = s2 p (fun x y => nzi x * nzi y * rr p f ((y + d * iv y) - (x + d * iv x))) := by
  unfold tau
  have h1 : ∀ z : R, sF p (fun y => nzi y * f (z + (y + d * iv y))) * sF p (fun y => nzi y * f (z + (y + d * iv y))) = s2 p (fun x y => nzi x * f (z + (x + d * iv x)) * (nzi y * f (z + (y + d * iv y)))) := fun z => (s2_prod p _ _).symm
  rw [sF_congr h1, ← s2_sF p (fun x y z => nzi x * f (z + (x + d * iv x)) * (nzi y * f (z + (y + d * iv y))))]
  refine s2_congr (fun x y => ?_)
  rw [sF_congr (H := fun z => nzi x * nzi y * (f (z + (x + d * iv x)) * f (z + (y + d * iv y)))) (fun z => by grind), sF_mul]
  congr 1
  have h2 := sF_aff h h.2.2.1.1 (x + d * iv x) (fun z => f z * f (z + ((y + d * iv y) - (x + d * iv x))))
  unfold rr
  rw [← h2]
  exact sF_congr (fun z => by rw [show z + (x + d * iv x) = 1 * z + (x + d * iv x) by grind, show z + (y + d * iv y) = 1 * z + (x + d * iv x) + (y + d * iv y - (x + d * iv x)) by grind])
theorem tau_l {R : Type} [Lean.Grind.CommRing R] {p : Nat} (h : isZp R p) (d : R) (f : R → Int) {l : R} (hl : l ≠ 0) : tau p d f = s2 p (fun x y => nzi x * nzi y * rr p f (l * (y - x) + d * iv l * (iv y - iv x))) := by
  have hF := h.2.2.1
  rw [tau_eq h]
  have hz : ∀ x : R, nzi (l * x + 0) = nzi x := by
    intro x
    by_cases hx : x = 0
    · rw [nzi_f hx, nzi_f (by rw [hx]; grind)]
    · rw [nzi_t hx, nzi_t (fun q => by rcases isF_D hF l x (by grind) with z | z
                                       · exact hl z
                                       · exact hx z)]
  have h1 : ∀ x : R, sF p (fun y => nzi x * nzi y * rr p f ((y + d * iv y) - (x + d * iv x))) = sF p (fun y => nzi x * nzi (l * y + 0) * rr p f (((l * y + 0) + d * iv (l * y + 0)) - (x + d * iv x))) := fun x => (sF_aff h hl 0 (fun y => nzi x * nzi y * rr p f ((y + d * iv y) - (x + d * iv x)))).symm
  unfold s2
  rw [sF_congr h1, ← sF_aff h hl 0]
  refine sF_congr (fun x => sF_congr (fun y => ?_))
  dsimp only
  rw [hz, hz]
  by_cases hx : x = 0
  · rw [nzi_f hx]; omega
  by_cases hy : y = 0
  · rw [nzi_f hy]; omega
  rw [show l * y + 0 = l * y by grind, show l * x + 0 = l * x by grind, iv_mm hF hl hy, iv_mm hF hl hx]
  congr 2
  grind
noncomputable def rw2 {R : Type} [Lean.Grind.CommRing R] (p : Nat) (d : R) (f : R → Int) (s t : R) : Int := sF p (fun l => nzi l * rr p f (l * s + d * iv l * t))
theorem tau_rw {R : Type} [Lean.Grind.CommRing R] {p : Nat} (h : isZp R p) (d : R) (f : R → Int) : (p - 1) * tau p d f = s2 p (fun s t => n2 p s t * rw2 p d f s t) := by
  rw [n2_push h]
  have h1 : ∀ x y : R, nzi x * nzi y * rw2 p d f (y - x) (iv y - iv x) = sF p (fun l => nzi l * (nzi x * nzi y * rr p f (l * (y - x) + d * iv l * (iv y - iv x)))) := by
    intro x y
    unfold rw2
    rw [← sF_mul]
    exact sF_congr (fun l => by grind)
  rw [s2_congr h1, s2_sF p (fun x y l => nzi l * (nzi x * nzi y * rr p f (l * (y - x) + d * iv l * (iv y - iv x))))]
  have h2 : ∀ l : R, s2 p (fun x y => nzi l * (nzi x * nzi y * rr p f (l * (y - x) + d * iv l * (iv y - iv x)))) = tau p d f * nzi l := by
    intro l
    rw [s2_mul]
    by_cases hl : l = 0
    · rw [nzi_f hl]; omega
    · rw [← tau_l h d f hl]; grind
  rw [sF_congr h2, sF_mul, nzi_sum h]; grind
theorem rw2_sum {R : Type} [Lean.Grind.CommRing R] {p : Nat} (h : isZp R p) (d : R) {f : R → Int} (hf : sF p f = 0) : s2 p (rw2 p d f) = 0 := by
  have h1 : s2 p (rw2 p d f) = sF p (fun l => s2 p (fun s t => nzi l * rr p f (l * s + d * iv l * t))) := s2_sF p (fun s t l => nzi l * rr p f (l * s + d * iv l * t))
  rw [h1, sF_congr (H := fun _ : R => 0) (fun l => ?_), sF_const]
  · omega
  · rw [s2_mul]
    by_cases hl : l = 0
    · rw [nzi_f hl]; omega
    · rw [s2_sw1]
      unfold s2
      rw [sF_congr (H := fun _ : R => 0) (fun t => by rw [sF_aff h hl]; exact rr_sum h hf), sF_const]; omega
theorem rr_orth {R : Type} [Lean.Grind.CommRing R] {p : Nat} (h : isZp R p) {d : R} (hd : d ≠ 0) {f : R → Int} (hf : sF p f = 0) {l m : R} (hl : l ≠ 0) (hm : m ≠ 0) (hlm : l * l - m * m ≠ 0) : s2 p (fun s t => rr p f (l * s + d * iv l * t) * rr p f (m * s + d * iv m * t)) = 0 := by
  have hF := h.2.2.1
  have i1 := iv_mul hF hl
  have i2 := iv_mul hF hm
  rw [s2_sw1]
  have h1 : ∀ t : R, sF p (fun s => rr p f (l * s + d * iv l * t) * rr p f (m * s + d * iv m * t)) = sF p (fun s => rr p f s * rr p f (m * iv l * (s - d * iv l * t) + d * iv m * t)) := by
    intro t
    rw [← sF_aff h hl (d * iv l * t) (fun s => rr p f s * rr p f (m * iv l * (s - d * iv l * t) + d * iv m * t))]
    exact sF_congr (fun s => by rw [show m * iv l * (l * s + d * iv l * t - d * iv l * t) + d * iv m * t = m * s + d * iv m * t by grind])
  unfold s2
  rw [sF_congr h1, sF_swap]
  rw [sF_congr (H := fun _ : R => 0) (fun s => ?_), sF_const]
  · omega
  · rw [sF_mul]
    have hne : d * iv m - m * iv l * (d * iv l) ≠ 0 := by
      intro q
      have e : d * (l * l - m * m) = 0 := by
        have : (d * iv m - m * iv l * (d * iv l)) * (m * (l * l)) = d * (l * l - m * m) := by grind
        rw [← this, q]; grind
      rcases isF_D hF _ _ e with z | z
      · exact hd z
      · exact hlm z
    have h2 := sF_aff h hne (m * iv l * s) (rr p f)
    rw [sF_congr (H := fun t => rr p f ((d * iv m - m * iv l * (d * iv l)) * t + m * iv l * s)) (fun t => by congr 1; grind), h2, rr_sum h hf]; omega
theorem rw2_sq {R : Type} [Lean.Grind.CommRing R] {p : Nat} (h : isZp R p) {d : R} (hd : d ≠ 0) {f : R → Int} (hf : sF p f = 0) : s2 p (fun s t => rw2 p d f s t * rw2 p d f s t) ≤ 2 * (p - 1) * (p * p * (sF p (fun x => f x * f x) * sF p (fun x => f x * f x))) := by
  obtain ⟨B2, hB⟩ : ∃ z, z = sF p (fun x => f x * f x) * sF p (fun x => f x * f x) := ⟨_, rfl⟩
  rw [← hB]
  have hB0 : 0 ≤ B2 := by rw [hB]; exact sq0 _
  have h1 : ∀ s t : R, rw2 p d f s t * rw2 p d f s t = s2 p (fun l m => nzi l * rr p f (l * s + d * iv l * t) * (nzi m * rr p f (m * s + d * iv m * t))) := fun s t => (s2_prod p _ _).symm
  rw [s2_congr h1, s2_swap]
  have h2 : ∀ l m : R, s2 p (fun s t => nzi l * rr p f (l * s + d * iv l * t) * (nzi m * rr p f (m * s + d * iv m * t))) ≤ (p * p * B2) * (nzi l * dl m l + nzi l * dl m (-l)) := by
    intro l m
    have e1 : s2 p (fun s t => nzi l * rr p f (l * s + d * iv l * t) * (nzi m * rr p f (m * s + d * iv m * t))) = nzi l * nzi m * s2 p (fun s t => rr p f (l * s + d * iv l * t) * rr p f (m * s + d * iv m * t)) := by
      rw [← s2_mul]; exact s2_congr (fun s t => by grind)
    rw [e1]
    have hpp : 0 ≤ (p : Int) * p * B2 := Int.mul_nonneg (sq0 _) hB0
    have d1 := dl_01 m l
    have d2 := dl_01 m (-l)
    by_cases hl : l = 0
    · rw [nzi_f hl]; omega
    by_cases hm : m = 0
    · rw [nzi_f hm, nzi_t hl]
      have := Int.mul_nonneg hpp (show 0 ≤ 1 * dl m l + 1 * dl m (-l) by omega)
      omega
    rw [nzi_t hl, nzi_t hm]
    by_cases q : l * l - m * m = 0
    · have q2 : (m - l) * (m + l) = 0 := by grind
      have q3 : 1 ≤ 1 * dl m l + 1 * dl m (-l) := by
        rcases isF_D h.2.2.1 _ _ q2 with z | z
        · rw [dl_t (show m = l by grind)]; omega
        · rw [dl_t (show m = -l by grind)]; omega
      have q4 : s2 p (fun s t => rr p f (l * s + d * iv l * t) * rr p f (m * s + d * iv m * t)) ≤ p * p * B2 := by
        refine Int.le_trans (s2_le (H := fun _ _ : R => B2) (fun s t => ?_)) (by rw [s2_const]; exact Int.le_refl _)
        rw [hB]; exact rr_pr h f _ _
      have q5 := Int.mul_le_mul_of_nonneg_left q3 hpp
      omega
    · rw [rr_orth h hd hf hl hm q]
      have := Int.mul_nonneg hpp (show 0 ≤ 1 * dl m l + 1 * dl m (-l) by omega)
      omega
  refine Int.le_trans (s2_le h2) ?_
  rw [s2_mul, s2_add]
  have h3 : ∀ g : R → R, s2 p (fun l m : R => nzi l * dl m (g l)) = p - 1 := by
    intro g
    unfold s2
    rw [← nzi_sum h]
    exact sF_congr (fun x' => by rw [sF_mul, sF_dl1 h]; omega)
  rw [h3 (fun l => l), h3 (fun l => -l)]
  have e : (p : Int) * p * B2 * (p - 1 + (p - 1)) = 2 * (p - 1) * (p * p * B2) := by grind
  omega
theorem tau_bd {R : Type} [Lean.Grind.CommRing R] {p : Nat} (h : isZp R p) {d : R} (hd : d ≠ 0) {f : R → Int} (hf : sF p f = 0) : tau p d f * tau p d f ≤ 4 * (p * p * p) * (sF p (fun x => f x * f x) * sF p (fun x => f x * f x)) := by
  have hp : (2 : Int) ≤ p := by have := h.1.1; omega
  obtain ⟨q, hq⟩ : ∃ q : Int, (p : Int) = q := ⟨_, rfl⟩
  have hq2 : 2 ≤ q := by omega
  have h1 := cauchy (isL_2 (R := R) p) (fun w => (p * p) * n2 p w.1 w.2 - (p - 1) * (p - 1)) (fun w => rw2 p d f w.1 w.2)
  have h2 : sF p (fun u : R => sF p (fun v : R => ((p : Int) * p * n2 p u v - (p - 1) * (p - 1)) * rw2 p d f u v)) = p * p * ((p - 1) * tau p d f) := by
    show s2 p (fun u v : R => ((p : Int) * p * n2 p u v - (p - 1) * (p - 1)) * rw2 p d f u v) = _
    rw [s2_congr (H := fun u v : R => (p : Int) * p * (n2 p u v * rw2 p d f u v) - (p - 1) * (p - 1) * rw2 p d f u v) (fun u v => by grind), s2_sub, s2_mul, s2_mul, ← tau_rw h, rw2_sum h d hf]; omega
  have h3 : sF p (fun u : R => sF p (fun v : R => ((p : Int) * p * n2 p u v - (p - 1) * (p - 1)) * ((p : Int) * p * n2 p u v - (p - 1) * (p - 1)))) ≤ p * p * (p - 1) * (2 * (p * p * p)) := by
    show s2 p (fun u v : R => ((p : Int) * p * n2 p u v - (p - 1) * (p - 1)) * ((p : Int) * p * n2 p u v - (p - 1) * (p - 1))) ≤ _
    rw [s2_congr (H := fun u v : R => ((p : Int) * p * (p * p) * (n2 p u v * n2 p u v) - 2 * ((p : Int) * p * ((p - 1) * (p - 1))) * n2 p u v) + (p - 1) * (p - 1) * ((p - 1) * (p - 1))) (fun u v => by grind), s2_add, s2_sub, s2_mul, s2_mul, s2_const, n2_sum h]
    have hE := Int.mul_le_mul_of_nonneg_left (n2_E h) (show (0 : Int) ≤ p * p * (p * p) from sq0 _)
    rw [hq] at hE ⊢
    have e : q * q * (q * q) * ((q - 1) * (3 * q - 5)) - 2 * (q * q * ((q - 1) * (q - 1))) * ((q - 1) * (q - 1)) + q * q * ((q - 1) * (q - 1) * ((q - 1) * (q - 1))) = q * q * (q - 1) * (2 * (q * q * q)) - q * q * (q - 1) * (2 * (q * q) + 3 * q - 1) := by grind
    have e2 : 0 ≤ q * q * (q - 1) * (2 * (q * q) + 3 * q - 1) := by
      have := sq0 q
      exact Int.mul_nonneg (Int.mul_nonneg this (by omega)) (by omega)
    omega
  have h4 := rw2_sq h hd hf
  obtain ⟨B2, hB⟩ : ∃ z, z = sF p (fun x => f x * f x) * sF p (fun x => f x * f x) := ⟨_, rfl⟩
  rw [← hB] at h4 ⊢
  have h5 : sF p (fun u : R => sF p (fun v : R => rw2 p d f u v * rw2 p d f u v)) ≤ 2 * (p - 1) * (p * p * B2) := h4
  have h6 : 0 ≤ sF p (fun u : R => sF p (fun v : R => rw2 p d f u v * rw2 p d f u v)) := sF_nn (fun u => sF_nn (fun v => sq0 _))
  dsimp only at h1
  rw [h2] at h1
  rw [hq] at h1 h3 h5 ⊢
  have h7 : q * q * ((q - 1) * tau p d f) * (q * q * ((q - 1) * tau p d f)) ≤ q * q * (q - 1) * (2 * (q * q * q)) * (2 * (q - 1) * (q * q * B2)) := by
    refine Int.le_trans h1 (Int.mul_le_mul h3 h5 h6 ?_)
    have := sq0 q
    exact Int.mul_nonneg (Int.mul_nonneg this (by omega)) (Int.mul_nonneg (by omega) (Int.mul_nonneg this (by omega)))
  have e1 : q * q * ((q - 1) * tau p d f) * (q * q * ((q - 1) * tau p d f)) = (q * q * (q * q) * ((q - 1) * (q - 1))) * (tau p d f * tau p d f) := by grind
  have e2 : q * q * (q - 1) * (2 * (q * q * q)) * (2 * (q - 1) * (q * q * B2)) = (q * q * (q * q) * ((q - 1) * (q - 1))) * (4 * (q * q * q) * B2) := by grind
  rw [e1, e2] at h7
  refine Int.le_of_mul_le_mul_left h7 ?_
  have a1 := Int.mul_pos (show 0 < q by omega) (show 0 < q by omega)
  exact Int.mul_pos (Int.mul_pos a1 a1) (Int.mul_pos (by omega) (by omega))
end MKlob
