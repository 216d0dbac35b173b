/-! rows of whole numbers: Gauss' lemma, common divisors -/
section MZx
theorem least {p : Nat → Prop} (h : ∃ i, p i) : ∃ i, p i ∧ ∀ j, j < i → ¬ p j := by
  obtain ⟨i, hi⟩ := h
  induction i using Nat.strongRecOn with
  | ind i ih =>
    by_cases h : ∃ j, j < i ∧ p j
    · obtain ⟨j, hj, hp⟩ := h
      exact ih j hj hp
    · exact ⟨i, hi, fun j hj q => h ⟨j, hj, q⟩⟩
theorem prm_ex : ∀ (n : Nat), 2 ≤ n → ∃ q, prm q ∧ q ∣ n := by
  intro n
  induction n using Nat.strongRecOn with
  | ind n ih =>
    intro h
    by_cases hp : prm n
    · exact ⟨n, hp, Nat.dvd_refl n⟩
    · have : ∃ d, d ∣ n ∧ d ≠ 1 ∧ d ≠ n := by
        apply Classical.byContradiction
        intro q
        apply hp
        refine ⟨h, fun d hd => ?_⟩
        rcases Nat.decEq d 1 with h1 | h1
        · rcases Nat.decEq d n with h2 | h2
          · exact absurd ⟨d, hd, h1, h2⟩ q
          · exact Or.inr h2
        · exact Or.inl h1
      obtain ⟨d, hd, h1, h2⟩ := this
      have h3 := Nat.le_of_dvd (by omega) hd
      have h4 : d ≠ 0 := by intro q; rw [q] at hd; have := Nat.eq_zero_of_zero_dvd hd; omega
      obtain ⟨q, hq, hqd⟩ := ih d (by omega) (by omega)
      exact ⟨q, hq, Nat.dvd_trans hqd hd⟩
theorem prm_dvi {q : Nat} (h : prm q) {a b : Int} (h1 : (q : Int) ∣ a * b) : (q : Int) ∣ a ∨ (q : Int) ∣ b := by
  rw [Int.ofNat_dvd_left, Int.natAbs_mul] at h1
  rcases prm_dv h h1 with h2 | h2
  · exact Or.inl (Int.ofNat_dvd_left.mpr h2)
  · exact Or.inr (Int.ofNat_dvd_left.mpr h2)
theorem sm_dvd {q : Int} {f : Nat → Int} : ∀ {n : Nat}, (∀ i, i < n → q ∣ f i) → q ∣ sm f n
  | 0, _ => ⟨0, by simp [sm]⟩
  | n + 1, h => by
    obtain ⟨a, ha⟩ := sm_dvd (n := n) (fun i hi => h i (by omega))
    obtain ⟨b, hb⟩ := h n (by omega)
    exact ⟨a + b, by rw [sm_succ, ha, hb]; grind⟩
theorem gauss_q {S : Type} [Lean.Grind.CommRing S] {co : S → Nat → Int} (P : isPol co) {q : Nat} (hq : prm q) {f g : S} (h : ∀ i, (q : Int) ∣ co (f * g) i) : (∀ i, (q : Int) ∣ co f i) ∨ (∀ i, (q : Int) ∣ co g i) := by
  apply Classical.byContradiction
  intro hn
  have h1 : ∃ i, ¬ (q : Int) ∣ co f i := Classical.byContradiction (fun z => hn (Or.inl (fun i => Classical.byContradiction (fun y => z ⟨i, y⟩))))
  have h2 : ∃ i, ¬ (q : Int) ∣ co g i := Classical.byContradiction (fun z => hn (Or.inr (fun i => Classical.byContradiction (fun y => z ⟨i, y⟩))))
  obtain ⟨i, hi, hi2⟩ := least h1
  obtain ⟨j, hj, hj2⟩ := least h2
  have h3 := h (i + j)
  rw [p_mul P, sm_skip _ (show i ≤ i + j by omega), show i + j - i = j by omega] at h3
  have h4 : (q : Int) ∣ sm (fun k => co f (if k < i then k else k + 1) * co g (i + j - (if k < i then k else k + 1))) (i + j) := by
    refine sm_dvd (fun k hk => ?_)
    by_cases z : k < i
    · rw [if_pos z]
      obtain ⟨c, hc⟩ := Classical.byContradiction (fun y => hi2 k z y)
      exact ⟨c * co g (i + j - k), by rw [hc]; grind⟩
    · rw [if_neg z]
      obtain ⟨c, hc⟩ := Classical.byContradiction (fun y => hj2 (i + j - (k + 1)) (by omega) y)
      exact ⟨co f (k + 1) * c, by rw [hc]; grind⟩
  obtain ⟨a, ha⟩ := h3
  obtain ⟨b, hb⟩ := h4
  have h5 : (q : Int) ∣ co f i * co g j := ⟨a - b, by rw [hb] at ha; grind⟩
  rcases prm_dvi hq h5 with h6 | h6
  · exact hi h6
  · exact hj h6
theorem mo_0 {R S : Type} [Lean.Grind.CommRing R] [Lean.Grind.CommRing S] {co : S → Nat → R} (P : isPol co) (c : R) (f : S) (i : Nat) : co (mo P c 0 * f) i = c * co f i := by
  rw [mo_mul P, if_pos (Nat.zero_le _), Nat.sub_zero]
def prim {S : Type} (co : S → Nat → Int) (f : S) : Prop := ∀ q : Nat, prm q → ∃ i, ¬ (q : Int) ∣ co f i
theorem int_D : isD Int := fun a b h => Int.mul_eq_zero.mp h
theorem prim_ne {S : Type} [Lean.Grind.CommRing S] {co : S → Nat → Int} (P : isPol co) {f : S} (h : prim co f) : f ≠ 0 := by
  intro q
  obtain ⟨i, hi⟩ := h 2 ⟨by omega, fun d hd => by have := Nat.le_of_dvd (by omega) hd
                                                  have : d ≠ 0 := by intro z; rw [z] at hd; have := Nat.eq_zero_of_zero_dvd hd; omega
                                                  omega⟩
  apply hi
  rw [q, p_zero P]
  exact ⟨0, by grind⟩
theorem prim_mul {S : Type} [Lean.Grind.CommRing S] {co : S → Nat → Int} (P : isPol co) {f g : S} (hf : prim co f) (hg : prim co g) : prim co (f * g) := by
  intro q hq
  apply Classical.byContradiction
  intro hn
  rcases gauss_q P hq (f := f) (g := g) (fun i => Classical.byContradiction (fun y => hn ⟨i, y⟩)) with h | h
  · obtain ⟨i, hi⟩ := hf q hq
    exact hi (h i)
  · obtain ⟨i, hi⟩ := hg q hq
    exact hi (h i)
theorem prim_dv {S : Type} [Lean.Grind.CommRing S] {co : S → Nat → Int} (P : isPol co) {f g : S} (hf : prim co f) (h : dv g f) : prim co g := by
  obtain ⟨c, hc⟩ := h
  intro q hq
  obtain ⟨i, hi⟩ := hf q hq
  apply Classical.byContradiction
  intro hn
  apply hi
  rw [hc, p_mul P]
  refine sm_dvd (fun k _ => ?_)
  obtain ⟨d, hd⟩ := Classical.byContradiction (fun y => hn ⟨k, y⟩ : ¬ ¬ (q : Int) ∣ co g k)
  exact ⟨d * co c (i - k), by rw [hd]; grind⟩
/-- what a whole number divides -/
theorem z_quo {S : Type} [Lean.Grind.CommRing S] {co : S → Nat → Int} (P : isPol co) {c : Int} {f : S} (h : ∀ i, c ∣ co f i) : ∃ g, f = mo P c 0 * g := by
  obtain ⟨n, hn⟩ := P.2.2.2.1 f
  by_cases hc : c = 0
  · refine ⟨0, p_ext P (fun i => ?_)⟩
    obtain ⟨d, hd⟩ := h i
    rw [hd, hc, mo_0 P, p_zero P]; grind
  · obtain ⟨g, hg⟩ := P.2.2.2.2.1 (fun i => co f i / c) n (fun i hi => by rw [hn i hi]; exact Int.zero_ediv c)
    refine ⟨g, p_ext P (fun i => ?_)⟩
    rw [mo_0 P, hg]
    exact (Int.mul_ediv_cancel' (h i)).symm
theorem gauss_c {S : Type} [Lean.Grind.CommRing S] {co : S → Nat → Int} (P : isPol co) {g : S} (hg : prim co g) : ∀ (c : Nat) (f h : S), c ≠ 0 → mo P (c : Int) 0 * f = g * h → dv g f := by
  intro c
  induction c using Nat.strongRecOn with
  | ind c ih =>
    intro f h hc he
    rcases Nat.lt_or_ge c 2 with h1 | h1
    · have : c = 1 := by omega
      subst this
      exact ⟨h, by rw [← he, show ((1 : Nat) : Int) = 1 from rfl, mo_one]; grind⟩
    · obtain ⟨q, hq, d, hd⟩ := prm_ex c h1
      have hqd : ∀ i, (q : Int) ∣ co (g * h) i := fun i => by
        rw [← he, mo_0 P, hd]
        exact ⟨d * co f i, by rw [Int.natCast_mul]; grind⟩
      rcases gauss_q P hq hqd with h2 | h2
      · obtain ⟨i, hi⟩ := hg q hq
        exact absurd (h2 i) hi
      · obtain ⟨h', hh⟩ := z_quo P h2
        have hd0 : d ≠ 0 := by intro z; rw [z] at hd; omega
        have hq1 := hq.1
        refine ih d (by rw [hd]; calc d = 1 * d := (Nat.one_mul d).symm
                                      _ < q * d := Nat.mul_lt_mul_of_pos_right (by omega) (by omega)) f h' hd0 ?_
        have h3 : mo P (q : Int) 0 * (mo P (d : Int) 0 * f) = mo P (q : Int) 0 * (g * h') := by
          have e1 : mo P ((q * d : Nat) : Int) 0 = mo P (q : Int) 0 * mo P (d : Int) 0 := by rw [mo_mm, Nat.add_zero, Int.natCast_mul]
          rw [hd, e1, hh] at he
          grind
        refine p_ext P (fun i => ?_)
        have h4 : co (mo P (q : Int) 0 * (mo P (d : Int) 0 * f)) i = co (mo P (q : Int) 0 * (g * h')) i := by rw [h3]
        rw [mo_0 P (q : Int), mo_0 P (q : Int)] at h4
        exact Int.eq_of_mul_eq_mul_left (by omega) h4
theorem gauss_i {S : Type} [Lean.Grind.CommRing S] {co : S → Nat → Int} (P : isPol co) {g : S} (hg : prim co g) {c : Int} {f h : S} (hc : c ≠ 0) (he : mo P c 0 * f = g * h) : dv g f := by
  rcases Int.le_total 0 c with q | q
  · refine gauss_c P hg c.toNat f h (by omega) ?_
    rw [show ((c.toNat : Nat) : Int) = c by omega]; exact he
  · refine gauss_c P hg (-c).toNat f (-h) (by omega) ?_
    rw [show (((-c).toNat : Nat) : Int) = 0 - c by omega]
    have : mo P (0 - c) 0 = 0 - mo P c 0 := by rw [← mo_sub, mo_zero]
    rw [this]; grind
/-- the primitive part -/
theorem z_prim {S : Type} [Lean.Grind.CommRing S] {co : S → Nat → Int} (P : isPol co) : ∀ (n : Nat) (f : S), f ≠ 0 → (co f (nu co f - 1)).natAbs ≤ n → ∃ c g, c ≠ 0 ∧ prim co g ∧ f = mo P c 0 * g := by
  intro n
  induction n with
  | zero =>
    intro f hf h
    exact absurd (by omega) (nu_top P f (fun q => hf ((nu_zero P).mp q)))
  | succ n ih =>
    intro f hf h
    by_cases hp : prim co f
    · exact ⟨1, f, by omega, hp, by rw [mo_one]; grind⟩
    · have : ∃ q, prm q ∧ ∀ i, (q : Int) ∣ co f i := by
        apply Classical.byContradiction
        intro hn
        apply hp
        intro q hq
        exact Classical.byContradiction (fun y => hn ⟨q, hq, fun i => Classical.byContradiction (fun z => y ⟨i, z⟩)⟩)
      obtain ⟨q, hq, hd⟩ := this
      obtain ⟨g, hg⟩ := z_quo P hd
      have hq1 := hq.1
      have hg0 : g ≠ 0 := by intro z; apply hf; rw [hg, z]; grind
      have hq0 : (q : Int) ≠ 0 := by omega
      have hN : nu co f = nu co g := by
        have h1 := nu_mul P int_D (a := mo P (q : Int) 0) (b := g) (fun z => by have := (nu_zero P).mpr z; rw [mo_N P 0 hq0] at this; omega) hg0
        rw [← hg, mo_N P 0 hq0] at h1
        omega
      have h2 : co f (nu co f - 1) = q * co g (nu co g - 1) := by rw [← hN, hg, mo_0 P, ← hg]
      have h3 := nu_top P g (fun q => hg0 ((nu_zero P).mp q))
      obtain ⟨c, k, hc, hk, hgk⟩ := ih g hg0 (by
        rw [h2, Int.natAbs_mul] at h
        have h4 : (co g (nu co g - 1)).natAbs ≠ 0 := by omega
        have h5 : 2 * (co g (nu co g - 1)).natAbs ≤ (q : Int).natAbs * (co g (nu co g - 1)).natAbs := Nat.mul_le_mul_right _ (by omega)
        omega)
      refine ⟨q * c, k, Int.mul_ne_zero hq0 hc, hk, ?_⟩
      rw [hg, hgk]
      have : mo P ((q : Int) * c) 0 = mo P (q : Int) 0 * mo P c 0 := by rw [mo_mm]
      rw [this]; grind
theorem z_prim' {S : Type} [Lean.Grind.CommRing S] {co : S → Nat → Int} (P : isPol co) {f : S} (hf : f ≠ 0) : ∃ c g, c ≠ 0 ∧ prim co g ∧ f = mo P c 0 * g := z_prim P _ f hf (Nat.le_refl _)
theorem z_N {S : Type} [Lean.Grind.CommRing S] {co : S → Nat → Int} (P : isPol co) {c : Int} (hc : c ≠ 0) {g : S} : nu co (mo P c 0 * g) = nu co g := by
  by_cases hg : g = 0
  · rw [hg, show mo P c 0 * 0 = (0 : S) by grind]
  · have h1 := nu_mul P int_D (a := mo P c 0) (b := g) (fun z => by have := (nu_zero P).mpr z; rw [mo_N P 0 hc] at this; omega) hg
    rw [mo_N P 0 hc] at h1
    omega
theorem z_dom {S : Type} [Lean.Grind.CommRing S] {co : S → Nat → Int} (P : isPol co) {a b : S} (h : a * b = 0) : a = 0 ∨ b = 0 := by
  by_cases ha : a = 0
  · exact Or.inl ha
  · by_cases hb : b = 0
    · exact Or.inr hb
    · have h1 := nu_mul P int_D ha hb
      rw [(nu_zero P).mpr h] at h1
      have h2 : nu co a ≠ 0 := fun q => ha ((nu_zero P).mp q)
      have h3 : nu co b ≠ 0 := fun q => hb ((nu_zero P).mp q)
      omega
/-- division after multiplication by powers of the head -/
theorem z_pdiv {S : Type} [Lean.Grind.CommRing S] {co : S → Nat → Int} (P : isPol co) {b : S} (hb : b ≠ 0) : ∀ (n : Nat) (a : S), nu co a ≤ n → ∃ c q r, c ≠ 0 ∧ mo P c 0 * a = q * b + r ∧ nu co r < nu co b
  | 0, a, h => by
    have hbn : nu co b ≠ 0 := fun q => hb ((nu_zero P).mp q)
    exact ⟨1, 0, a, by omega, by rw [mo_one]; grind, by omega⟩
  | n + 1, a, h => by
    have hbn : nu co b ≠ 0 := fun q => hb ((nu_zero P).mp q)
    rcases Nat.lt_or_ge (nu co a) (nu co b) with q | q
    · exact ⟨1, 0, a, by omega, by rw [mo_one]; grind, q⟩
    · have ht := nu_top P b hbn
      obtain ⟨c, q1, r, hc, h1, h2⟩ := z_pdiv P hb n (mo P (co b (nu co b - 1)) 0 * a - mo P (co a (nu co a - 1)) (nu co a - nu co b) * b) (by
        have : nu co (mo P (co b (nu co b - 1)) 0 * a - mo P (co a (nu co a - 1)) (nu co a - nu co b) * b) ≤ nu co a - 1 := nu_le P (fun i hi => by
          rw [p_sub P, mo_0 P, mo_mul P, if_pos (by omega)]
          rcases Nat.lt_or_ge (nu co a - 1) i with z | z
          · rw [nu_hi P a (by omega), nu_hi P b (i := i - (nu co a - nu co b)) (by omega)]; grind
          · rw [show i - (nu co a - nu co b) = nu co b - 1 by omega, show i = nu co a - 1 by omega]; grind)
        omega)
      refine ⟨c * co b (nu co b - 1), q1 + mo P c 0 * mo P (co a (nu co a - 1)) (nu co a - nu co b), r, Int.mul_ne_zero hc ht, ?_, h2⟩
      have : mo P (c * co b (nu co b - 1)) 0 = mo P c 0 * mo P (co b (nu co b - 1)) 0 := by rw [mo_mm]
      rw [this]; grind
/-- the common divisor over the whole numbers -/
theorem z_gcd {S : Type} [Lean.Grind.CommRing S] {co : S → Nat → Int} (P : isPol co) {a b : S} (ha : a ≠ 0) : ∃ g u v c, prim co g ∧ dv g a ∧ dv g b ∧ c ≠ 0 ∧ mo P c 0 * g = u * a + v * b := by
  have h0 : ∃ n, ∃ w u v, w ≠ 0 ∧ w = u * a + v * b ∧ nu co w = n := ⟨_, a, 1, 0, ha, by grind, rfl⟩
  obtain ⟨n, ⟨w, u, v, hw, he, hn⟩, hmin⟩ := least h0
  obtain ⟨c, g, hc, hg, hwg⟩ := z_prim' P hw
  have key : ∀ x s t, x = s * a + t * b → dv g x := by
    intro x s t hx
    obtain ⟨e, q, r, he0, h1, h2⟩ := z_pdiv P hw (nu co x) x (Nat.le_refl _)
    have hr : r = 0 := by
      apply Classical.byContradiction
      intro hr
      refine hmin (nu co r) (by omega) ⟨r, mo P e 0 * s - q * u, mo P e 0 * t - q * v, hr, ?_, rfl⟩
      grind
    refine gauss_i P hg he0 (h := q * mo P c 0) ?_
    rw [h1, hr, hwg]; grind
  exact ⟨g, u, v, c, hg, key a 1 0 (by grind), key b 0 1 (by grind), hc, by rw [← hwg, he]⟩
theorem z_gcd_dv {S : Type} [Lean.Grind.CommRing S] {co : S → Nat → Int} (P : isPol co) {a b g u v d : S} {c : Int} (hc : c ≠ 0) (he : mo P c 0 * g = u * a + v * b) (hd : prim co d) (h1 : dv d a) (h2 : dv d b) : dv d g := by
  have h3 : dv d (mo P c 0 * g) := by rw [he]; exact dv_add (dv_mull u h1) (dv_mull v h2)
  obtain ⟨h, hh⟩ := h3
  exact gauss_i P hd hc hh
end MZx
