/-! polynomials S over R, by their coefficients co -/
section MPolA
def isPol {R S : Type} [Lean.Grind.CommRing R] [Lean.Grind.CommRing S] (co : S → Nat → R) : Prop := (∀ a b i, co (a + b) i = co a i + co b i) ∧ (∀ a b k, co (a * b) k = sm (fun i => co a i * co b (k - i)) (k + 1)) ∧ (∀ a b, (∀ i, co a i = co b i) → a = b) ∧ (∀ a, ∃ n, ∀ i, n ≤ i → co a i = 0) ∧ (∀ (f : Nat → R) (n : Nat), (∀ i, n ≤ i → f i = 0) → ∃ a, ∀ i, co a i = f i) ∧ (∀ i, co 1 i = if i = 0 then 1 else 0)
def isF (R : Type) [Lean.Grind.CommRing R] : Prop := (1 : R) ≠ 0 ∧ ∀ a : R, a ≠ 0 → ∃ b, a * b = 1
theorem p_add {R S : Type} [Lean.Grind.CommRing R] [Lean.Grind.CommRing S] {co : S → Nat → R} (P : isPol co) (a b : S) (i : Nat) : co (a + b) i = co a i + co b i := P.1 a b i
theorem p_mul {R S : Type} [Lean.Grind.CommRing R] [Lean.Grind.CommRing S] {co : S → Nat → R} (P : isPol co) (a b : S) (k : Nat) : co (a * b) k = sm (fun i => co a i * co b (k - i)) (k + 1) := P.2.1 a b k
theorem p_ext {R S : Type} [Lean.Grind.CommRing R] [Lean.Grind.CommRing S] {co : S → Nat → R} (P : isPol co) {a b : S} (h : ∀ i, co a i = co b i) : a = b := P.2.2.1 a b h
theorem p_zero {R S : Type} [Lean.Grind.CommRing R] [Lean.Grind.CommRing S] {co : S → Nat → R} (P : isPol co) (i : Nat) : co 0 i = 0 := by
  have h := P.1 0 0 i
  rw [show (0 : S) + 0 = 0 by grind] at h
  grind
theorem p_one {R S : Type} [Lean.Grind.CommRing R] [Lean.Grind.CommRing S] {co : S → Nat → R} (P : isPol co) (i : Nat) : co 1 i = if i = 0 then 1 else 0 := P.2.2.2.2.2 i
theorem p_neg {R S : Type} [Lean.Grind.CommRing R] [Lean.Grind.CommRing S] {co : S → Nat → R} (P : isPol co) (a : S) (i : Nat) : co (-a) i = - co a i := by
  have h := P.1 (-a) a i
  rw [show -a + a = 0 by grind, p_zero P] at h
  grind
theorem p_sub {R S : Type} [Lean.Grind.CommRing R] [Lean.Grind.CommRing S] {co : S → Nat → R} (P : isPol co) (a b : S) (i : Nat) : co (a - b) i = co a i - co b i := by
  rw [show a - b = a + -b by grind, p_add P, p_neg P]; grind
noncomputable def mo {R S : Type} [Lean.Grind.CommRing R] [Lean.Grind.CommRing S] {co : S → Nat → R} (P : isPol co) (c : R) (k : Nat) : S := Classical.choose (P.2.2.2.2.1 (fun i => if i = k then c else 0) (k + 1) (fun _ hi => if_neg (by omega)))
theorem mo_co {R S : Type} [Lean.Grind.CommRing R] [Lean.Grind.CommRing S] {co : S → Nat → R} (P : isPol co) (c : R) (k i : Nat) : co (mo P c k) i = if i = k then c else 0 := Classical.choose_spec (P.2.2.2.2.1 (fun i => if i = k then c else 0) (k + 1) (fun _ hi => if_neg (by omega))) i
theorem mo_mul {R S : Type} [Lean.Grind.CommRing R] [Lean.Grind.CommRing S] {co : S → Nat → R} (P : isPol co) (c : R) (k : Nat) (a : S) (i : Nat) : co (mo P c k * a) i = if k ≤ i then c * co a (i - k) else 0 := by
  rw [p_mul P]
  by_cases h : k ≤ i
  · rw [if_pos h, sm_one (k := k) (by omega) (fun j hj hne => by rw [mo_co P, if_neg hne]; grind), mo_co P, if_pos rfl]
  · rw [if_neg h]
    exact sm_zero (fun j hj => by rw [mo_co P, if_neg (by omega)]; grind)
theorem mo_add {R S : Type} [Lean.Grind.CommRing R] [Lean.Grind.CommRing S] {co : S → Nat → R} (P : isPol co) (c d : R) (k : Nat) : mo P (c + d) k = mo P c k + mo P d k := by
  refine p_ext P (fun i => ?_)
  rw [p_add P, mo_co P, mo_co P, mo_co P]
  by_cases h : i = k
  · simp only [if_pos h]
  · simp only [if_neg h]; grind
theorem mo_mm {R S : Type} [Lean.Grind.CommRing R] [Lean.Grind.CommRing S] {co : S → Nat → R} (P : isPol co) (c d : R) (k j : Nat) : mo P c k * mo P d j = mo P (c * d) (k + j) := by
  refine p_ext P (fun i => ?_)
  rw [mo_mul P, mo_co P, mo_co P]
  by_cases h : i = k + j
  · rw [if_pos h, if_pos (by omega), if_pos (by omega)]
  · rw [if_neg h]
    by_cases h2 : k ≤ i
    · rw [if_pos h2, if_neg (by omega)]; grind
    · rw [if_neg h2]
theorem mo_one {R S : Type} [Lean.Grind.CommRing R] [Lean.Grind.CommRing S] {co : S → Nat → R} (P : isPol co) : mo P 1 0 = 1 := p_ext P (fun i => by rw [mo_co P, p_one P])
theorem mo_zero {R S : Type} [Lean.Grind.CommRing R] [Lean.Grind.CommRing S] {co : S → Nat → R} (P : isPol co) (k : Nat) : mo P 0 k = 0 := p_ext P (fun i => by rw [mo_co P, p_zero P, ite_self])
/-! the degree and 1 -/
noncomputable def dgn {R : Type} [Lean.Grind.CommRing R] (f : Nat → R) : Nat → Nat
  | 0 => 0
  | n + 1 => @ite _ (f n = 0) (Classical.propDecidable _) (dgn f n) (n + 1)
theorem dgn_spec {R : Type} [Lean.Grind.CommRing R] (f : Nat → R) : ∀ (n : Nat), (∀ i, n ≤ i → f i = 0) → (∀ i, dgn f n ≤ i → f i = 0) ∧ (dgn f n ≠ 0 → f (dgn f n - 1) ≠ 0)
  | 0, h => ⟨h, fun q => absurd rfl q⟩
  | n + 1, h => by
    unfold dgn
    by_cases h0 : f n = 0
    · rw [if_pos h0]
      refine dgn_spec f n (fun i hi => ?_)
      rcases Nat.lt_or_ge n i with q | q
      · exact h i (by omega)
      · rw [show i = n by omega]; exact h0
    · rw [if_neg h0]
      exact ⟨h, fun _ => h0⟩
noncomputable def nu {R S : Type} [Lean.Grind.CommRing R] [Lean.Grind.CommRing S] (co : S → Nat → R) (a : S) : Nat := @dite _ (∃ n, ∀ i, n ≤ i → co a i = 0) (Classical.propDecidable _) (fun h => dgn (co a) (Classical.choose h)) (fun _ => 0)
theorem nu_spec {R S : Type} [Lean.Grind.CommRing R] [Lean.Grind.CommRing S] {co : S → Nat → R} (P : isPol co) (a : S) : (∀ i, nu co a ≤ i → co a i = 0) ∧ (nu co a ≠ 0 → co a (nu co a - 1) ≠ 0) := by
  have h := P.2.2.2.1 a
  unfold nu
  rw [dif_pos h]
  exact dgn_spec (co a) _ (Classical.choose_spec h)
theorem nu_hi {R S : Type} [Lean.Grind.CommRing R] [Lean.Grind.CommRing S] {co : S → Nat → R} (P : isPol co) (a : S) {i : Nat} (h : nu co a ≤ i) : co a i = 0 := (nu_spec P a).1 i h
theorem nu_top {R S : Type} [Lean.Grind.CommRing R] [Lean.Grind.CommRing S] {co : S → Nat → R} (P : isPol co) (a : S) (h : nu co a ≠ 0) : co a (nu co a - 1) ≠ 0 := (nu_spec P a).2 h
theorem nu_le {R S : Type} [Lean.Grind.CommRing R] [Lean.Grind.CommRing S] {co : S → Nat → R} (P : isPol co) {a : S} {n : Nat} (h : ∀ i, n ≤ i → co a i = 0) : nu co a ≤ n := by
  rcases Nat.lt_or_ge n (nu co a) with q | q
  · exact absurd (h (nu co a - 1) (by omega)) (nu_top P a (by omega))
  · exact q
theorem nu_eq {R S : Type} [Lean.Grind.CommRing R] [Lean.Grind.CommRing S] {co : S → Nat → R} (P : isPol co) {a : S} {n : Nat} (h : ∀ i, n ≤ i → co a i = 0) (h1 : n ≠ 0 → co a (n - 1) ≠ 0) : nu co a = n := by
  have h2 := nu_le P h
  rcases Nat.lt_or_ge (nu co a) n with q | q
  · exact absurd (nu_hi P a (i := n - 1) (by omega)) (h1 (by omega))
  · omega
theorem nu_gt {R S : Type} [Lean.Grind.CommRing R] [Lean.Grind.CommRing S] {co : S → Nat → R} (P : isPol co) {a : S} {i : Nat} (h : co a i ≠ 0) : i < nu co a := by
  rcases Nat.lt_or_ge i (nu co a) with q | q
  · exact q
  · exact absurd (nu_hi P a q) h
theorem nu_zero {R S : Type} [Lean.Grind.CommRing R] [Lean.Grind.CommRing S] {co : S → Nat → R} (P : isPol co) {a : S} : nu co a = 0 ↔ a = 0 := by
  constructor
  · intro h
    exact p_ext P (fun i => by rw [nu_hi P a (by omega), p_zero P])
  · intro h
    subst h
    exact nu_eq P (fun i _ => p_zero P i) (fun q => absurd rfl q)
theorem mul_top {R S : Type} [Lean.Grind.CommRing R] [Lean.Grind.CommRing S] {co : S → Nat → R} (P : isPol co) {a b : S} {n m : Nat} (ha : ∀ i, n < i → co a i = 0) (hb : ∀ i, m < i → co b i = 0) : co (a * b) (n + m) = co a n * co b m := by
  rw [p_mul P, sm_one (k := n) (by omega) (fun i hi hne => ?_)]
  · rw [show n + m - n = m by omega]
  · rcases Nat.lt_or_ge n i with q | q
    · rw [ha i q]; grind
    · rw [hb (n + m - i) (by omega)]; grind
theorem mul_hi {R S : Type} [Lean.Grind.CommRing R] [Lean.Grind.CommRing S] {co : S → Nat → R} (P : isPol co) {a b : S} {n m : Nat} (ha : ∀ i, n ≤ i → co a i = 0) (hb : ∀ i, m ≤ i → co b i = 0) (i : Nat) (hi : n + m ≤ i + 1) : co (a * b) i = 0 := by
  rw [p_mul P]
  refine sm_zero (fun j hj => ?_)
  rcases Nat.lt_or_ge j n with h | h
  · rw [hb (i - j) (by omega)]; grind
  · rw [ha j h]; grind
def isD (R : Type) [Lean.Grind.CommRing R] : Prop := ∀ a b : R, a * b = 0 → a = 0 ∨ b = 0
theorem isF_D {R : Type} [Lean.Grind.CommRing R] (hF : isF R) : isD R := by
  intro a b h
  by_cases ha : a = 0
  · exact Or.inl ha
  · obtain ⟨c, hc⟩ := hF.2 a ha
    exact Or.inr (by grind)
theorem nu_mul {R S : Type} [Lean.Grind.CommRing R] [Lean.Grind.CommRing S] {co : S → Nat → R} (P : isPol co) (hD : isD R) {a b : S} (ha : a ≠ 0) (hb : b ≠ 0) : nu co (a * b) + 1 = nu co a + nu co b := by
  have h1 : nu co a ≠ 0 := fun q => ha ((nu_zero P).mp q)
  have h2 : nu co b ≠ 0 := fun q => hb ((nu_zero P).mp q)
  have h3 : nu co (a * b) = nu co a + nu co b - 1 := by
    refine nu_eq P (fun i hi => mul_hi P (fun j hj => nu_hi P a hj) (fun j hj => nu_hi P b hj) i (by omega)) (fun _ => ?_)
    rw [show nu co a + nu co b - 1 - 1 = (nu co a - 1) + (nu co b - 1) by omega, mul_top P (fun i hi => nu_hi P a (by omega)) (fun i hi => nu_hi P b (by omega))]
    intro q
    rcases hD _ _ q with q | q
    · exact nu_top P a h1 q
    · exact nu_top P b h2 q
  omega
/-- division by a row whose head has an inverse -/
theorem p_div {R S : Type} [Lean.Grind.CommRing R] [Lean.Grind.CommRing S] {co : S → Nat → R} (P : isPol co) {b : S} {m : Nat} {d : R} (hb : ∀ i, m < i → co b i = 0) (hd : co b m * d = 1) : ∀ (n : Nat) (a : S), (∀ i, n ≤ i → co a i = 0) → ∃ q r, a = q * b + r ∧ ∀ i, m ≤ i → co r i = 0
  | 0, a, h => ⟨0, a, by grind, fun i _ => h i (by omega)⟩
  | n + 1, a, h => by
    rcases Nat.lt_or_ge n m with q | q
    · exact ⟨0, a, by grind, fun i hi => h i (by omega)⟩
    · obtain ⟨q1, r, h1, h2⟩ := p_div P hb hd n (a - mo P (co a n * d) (n - m) * b) (fun i hi => by
        rw [p_sub P, mo_mul P, if_pos (by omega)]
        rcases Nat.lt_or_ge n i with q2 | q2
        · rw [h i (by omega), hb (i - (n - m)) (by omega)]; grind
        · rw [show i - (n - m) = m by omega, show i = n by omega]; grind)
      exact ⟨q1 + mo P (co a n * d) (n - m), r, by grind, h2⟩
theorem pol_EU {R S : Type} [Lean.Grind.CommRing R] [Lean.Grind.CommRing S] {co : S → Nat → R} (P : isPol co) (hF : isF R) : EU S (nu co) := by
  refine ⟨fun a => nu_zero P, fun a b ha hb => nu_mul P (isF_D hF) ha hb, fun a b hb => ?_⟩
  have h1 : nu co b ≠ 0 := fun q => hb ((nu_zero P).mp q)
  obtain ⟨d, hd⟩ := hF.2 _ (nu_top P b h1)
  obtain ⟨q, r, h2, h3⟩ := p_div P (m := nu co b - 1) (fun i hi => nu_hi P b (by omega)) hd (nu co a) a (fun i hi => nu_hi P a hi)
  refine ⟨q, r, h2, ?_⟩
  have := nu_le P h3
  omega
/-- only one remainder -/
theorem p_div_u {R S : Type} [Lean.Grind.CommRing R] [Lean.Grind.CommRing S] {co : S → Nat → R} (P : isPol co) {b : S} {m : Nat} {d : R} (hb : ∀ i, m < i → co b i = 0) (hd : co b m * d = 1) {q r q' r' : S} (h : q * b + r = q' * b + r') (hr : ∀ i, m ≤ i → co r i = 0) (hr' : ∀ i, m ≤ i → co r' i = 0) : q = q' ∧ r = r' := by
  have h1 : q - q' = 0 := by
    apply Classical.byContradiction
    intro hne
    have h2 : nu co (q - q') ≠ 0 := fun z => hne ((nu_zero P).mp z)
    have h3 := nu_top P _ h2
    apply h3
    have h4 : co ((q - q') * b) ((nu co (q - q') - 1) + m) = co (q - q') (nu co (q - q') - 1) * co b m := mul_top P (fun i hi => nu_hi P _ (by omega)) hb
    rw [show (q - q') * b = r' - r by grind, p_sub P, hr _ (by omega), hr' _ (by omega)] at h4
    grind
  exact ⟨by grind, by grind⟩
end MPolA
