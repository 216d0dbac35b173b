/-! rows at a value -/
section MEval
noncomputable def eq {R S : Type} [Lean.Grind.CommRing R] [Lean.Grind.CommRing S] {co : S → Nat → R} (P : isPol co) (f : S) (y : R) : R := sm (fun i => co f i * y ^ i) (nu co f)
theorem eq_n {R S : Type} [Lean.Grind.CommRing R] [Lean.Grind.CommRing S] {co : S → Nat → R} (P : isPol co) (f : S) (y : R) {n : Nat} (h : nu co f ≤ n) : eq P f y = sm (fun i => co f i * y ^ i) n :=
  (sm_more h (fun i hi _ => by rw [nu_hi P f hi]; grind)).symm
theorem eq_add {R S : Type} [Lean.Grind.CommRing R] [Lean.Grind.CommRing S] {co : S → Nat → R} (P : isPol co) (f g : S) (y : R) : eq P (f + g) y = eq P f y + eq P g y := by
  have h : nu co (f + g) ≤ nu co f + nu co g := nu_le P (fun i hi => by rw [p_add P, nu_hi P f (by omega), nu_hi P g (by omega)]; grind)
  rw [eq_n P (f + g) y h, eq_n P f y (show nu co f ≤ nu co f + nu co g by omega), eq_n P g y (show nu co g ≤ nu co f + nu co g by omega), ← sm_add]
  exact sm_congr (fun i _ => by rw [p_add P]; grind)
theorem eq_mul {R S : Type} [Lean.Grind.CommRing R] [Lean.Grind.CommRing S] {co : S → Nat → R} (P : isPol co) (f g : S) (y : R) : eq P (f * g) y = eq P f y * eq P g y := by
  have h : nu co (f * g) ≤ nu co f + nu co g + 1 := nu_le P (fun i hi => mul_hi P (fun j hj => nu_hi P f hj) (fun j hj => nu_hi P g hj) i (by omega))
  rw [eq_n P (f * g) y h, eq_n P f y (show nu co f ≤ nu co f + nu co g + 1 by omega)]
  have h1 : sm (fun k => co (f * g) k * y ^ k) (nu co f + nu co g + 1) = sm (fun i => sm (fun j => (fun j l => co f j * y ^ j * (co g l * y ^ l)) j (i - j)) (i + 1)) (nu co f + nu co g + 1) := by
    refine sm_congr (fun i _ => ?_)
    rw [p_mul P, ← sm_mulr]
    refine sm_congr (fun j hj => ?_)
    dsimp only
    conv => lhs; rw [show i = j + (i - j) by omega, pw_add]
    rw [show j + (i - j) - j = i - j by omega]
    grind
  rw [h1, sm_tri (fun j l => co f j * y ^ j * (co g l * y ^ l))]
  rw [← sm_mulr]
  refine sm_congr (fun j hj => ?_)
  rw [sm_mul]
  by_cases hz : j < nu co f
  · rw [← eq_n P g y (show nu co g ≤ nu co f + nu co g - j + 1 by omega)]
  · rw [nu_hi P f (by omega)]; grind
theorem eq_mo {R S : Type} [Lean.Grind.CommRing R] [Lean.Grind.CommRing S] {co : S → Nat → R} (P : isPol co) (c y : R) (k : Nat) : eq P (mo P c k) y = c * y ^ k := by
  have h : nu co (mo P c k) ≤ k + 1 := nu_le P (fun i hi => by rw [mo_co P, if_neg (by omega)])
  rw [eq_n P _ y h, sm_one (k := k) (by omega) (fun i _ hne => by rw [mo_co P, if_neg hne]; grind), mo_co P, if_pos rfl]
theorem eq_zero {R S : Type} [Lean.Grind.CommRing R] [Lean.Grind.CommRing S] {co : S → Nat → R} (P : isPol co) (y : R) : eq P (0 : S) y = 0 := by rw [← mo_zero P 0, eq_mo]; grind
theorem eq_one {R S : Type} [Lean.Grind.CommRing R] [Lean.Grind.CommRing S] {co : S → Nat → R} (P : isPol co) (y : R) : eq P (1 : S) y = 1 := by rw [← mo_one P, eq_mo, pw_zero]; grind
theorem eq_sub {R S : Type} [Lean.Grind.CommRing R] [Lean.Grind.CommRing S] {co : S → Nat → R} (P : isPol co) (f g : S) (y : R) : eq P (f - g) y = eq P f y - eq P g y := by
  have h := eq_add P (f - g) g y
  rw [show f - g + g = f by grind] at h
  rw [h]; grind
theorem eq_pw {R S : Type} [Lean.Grind.CommRing R] [Lean.Grind.CommRing S] {co : S → Nat → R} (P : isPol co) (f : S) (y : R) : ∀ (n : Nat), eq P (f ^ n) y = (eq P f y) ^ n
  | 0 => by rw [pw_zero, pw_zero, eq_one]
  | n + 1 => by rw [pw_succ, pw_succ, eq_mul, eq_pw P f y n]
theorem eq_sm {R S : Type} [Lean.Grind.CommRing R] [Lean.Grind.CommRing S] {co : S → Nat → R} (P : isPol co) (F : Nat → S) (y : R) : ∀ (n : Nat), eq P (sm F n) y = sm (fun i => eq P (F i) y) n
  | 0 => eq_zero P y
  | n + 1 => by rw [sm_succ, sm_succ, eq_add, eq_sm P F y n]
/-- the row less its value is a multiple of the letter less the place -/
theorem eq_lin {R S : Type} [Lean.Grind.CommRing R] [Lean.Grind.CommRing S] {co : S → Nat → R} (P : isPol co) (f : S) (c : R) : dv (mo P 1 1 - mo P c 0) (f - mo P (eq P f c) 0) := by
  have h := ev_cg P f (m := mo P 1 1 - mo P c 0) (y := mo P 1 1) (z := mo P c 0) (dv_refl _)
  rw [ev_X] at h
  have h1 : ev P f (mo P c 0) = mo P (eq P f c) 0 := by
    unfold ev eq
    generalize nu co f = n
    induction n with
    | zero => simp only [sm]; rw [mo_zero]
    | succ n ih => rw [sm_succ, sm_succ, mo_add, ih, mo_pw, mo_mm, Nat.zero_mul]
  rw [h1] at h
  exact h
theorem zero_pr {R : Type} [Lean.Grind.CommRing R] (hD : isD R) : ∀ a b : R, dv 0 (a * b) → dv 0 a ∨ dv 0 b := by
  rintro a b ⟨c, hc⟩
  rcases hD a b (by rw [hc]; grind) with h | h
  · exact Or.inl ⟨0, by rw [h]; grind⟩
  · exact Or.inr ⟨0, by rw [h]; grind⟩
/-- a row of degree below p that is 0 at all places is 0 -/
theorem all_zero {R S : Type} [Lean.Grind.CommRing R] [Lean.Grind.CommRing S] {co : S → Nat → R} (P : isPol co) {p : Nat} (h : isZp R p) {f : S} (hN : nu co f ≤ p) (h1 : ∀ c : R, eq P f c = 0) : f = 0 := by
  apply Classical.byContradiction
  intro hf
  have h0 : nu co f ≠ 0 := fun q => hf ((nu_zero P).mp q)
  have hD := isF_D h.2.2.1
  refine rootb (zero_pr hD) (nu co f - 1) (co f) (fun j => nt j) ?_ (fun j _ => ?_) (fun j k hjk hk => ?_)
  · rintro ⟨c, hc⟩
    exact nu_top P f h0 (by rw [hc]; grind)
  · rw [show nu co f - 1 + 1 = nu co f by omega]
    have := h1 (nt j)
    unfold eq at this
    rw [this]; exact dv_zero _
  · rintro ⟨c, hc⟩
    exact nt_inj h hjk (by omega) (by rw [hc]; grind)
theorem X_ne {R S : Type} [Lean.Grind.CommRing R] [Lean.Grind.CommRing S] {co : S → Nat → R} (P : isPol co) (hF : isF R) (c : R) : nu co (mo P 1 1 - mo P c 0) = 2 := nu_eq P (fun i hi => by rw [p_sub P, mo_co P, mo_co P, if_neg (by omega), if_neg (by omega)]; grind) (fun _ => by
  rw [p_sub P, mo_co P, mo_co P, if_pos (by omega), if_neg (by omega)]
  intro q; exact hF.1 (by grind))
theorem Xp_eq {R S : Type} [Lean.Grind.CommRing R] [Lean.Grind.CommRing S] {co : S → Nat → R} (P : isPol co) {p : Nat} (h : isZp R p) (c : R) : eq P (mo P 1 1 ^ p - mo P 1 1) c = 0 := by
  rw [eq_sub, eq_pw, eq_mo, pw1, show (1 : R) * c = c by grind, fermat h]; grind
theorem Xp_co {R S : Type} [Lean.Grind.CommRing R] [Lean.Grind.CommRing S] {co : S → Nat → R} (P : isPol co) {p : Nat} (h : isZp R p) : nu co (mo P 1 1 ^ p - mo P 1 1) = p + 1 ∧ co (mo P 1 1 ^ p - mo P 1 1) p = 1 := by
  have hp := h.1.1
  have h1 : ∀ i, co (mo P 1 1 ^ p - mo P 1 1) i = (if i = p then 1 else 0) - (if i = 1 then 1 else 0) := by
    intro i
    rw [p_sub P, mo_pw, mo_co P, mo_co P, pw_one, Nat.one_mul]
  have h2 : co (mo P 1 1 ^ p - mo P 1 1) p = 1 := by rw [h1, if_pos rfl, if_neg (by omega)]; grind
  refine ⟨nu_eq P (fun i hi => by rw [h1, if_neg (by omega), if_neg (by omega)]; grind) (fun _ => ?_), h2⟩
  rw [Nat.add_sub_cancel, h2]
  exact h.2.2.1.1
/-- a row that is 0 at all places is a multiple of X^p - X -/
theorem all_dv {R S : Type} [Lean.Grind.CommRing R] [Lean.Grind.CommRing S] {co : S → Nat → R} (P : isPol co) {p : Nat} (h : isZp R p) {f : S} (h1 : ∀ c : R, eq P f c = 0) : dv (mo P 1 1 ^ p - mo P 1 1) f := by
  obtain ⟨h2, h3⟩ := Xp_co P h
  obtain ⟨q, r, h4, h5⟩ := p_div P (b := mo P 1 1 ^ p - mo P 1 1) (m := p) (d := 1) (fun i hi => nu_hi P _ (by omega)) (by rw [h3]; grind) (nu co f) f (fun i hi => nu_hi P f hi)
  have hr : r = 0 := all_zero P h (nu_le P h5) (fun c => by
    have h6 := h1 c
    rw [h4, eq_add, eq_mul, Xp_eq P h] at h6
    rw [show eq P q c * 0 + eq P r c = eq P r c by grind] at h6
    exact h6)
  exact ⟨q, by rw [h4, hr]; grind⟩
end MEval
