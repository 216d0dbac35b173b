/-! what parts a product of irreducible ones of one degree: the norm of X + c -/
section MSplit
theorem norm_id {S : Type} [Lean.Grind.CommRing S] {π : S} (hπ : ∀ a b, dv π (a * b) → dv π a ∨ dv π b) : ∀ (n : Nat) (c r : Nat → S), (∀ j, j < n → dv π (sm (fun i => c i * r j ^ i) (n + 1))) → (∀ j k, j < k → k < n → ¬ dv π (r j - r k)) → ∀ y, dv π (sm (fun i => c i * y ^ i) (n + 1) - c n * pdn (fun j => y - r j) n)
  | 0, c, r, _, _, y => by
    simp only [sm, pdn]
    rw [pw_zero]
    exact ⟨0, by grind⟩
  | n + 1, c, r, h, hd, y => by
    obtain ⟨q, hq1, hq2⟩ := syn (r n) (n + 1) c
    have hq1 := hq1 (by omega)
    rw [show n + 1 - 1 = n by omega] at hq1
    have hrt := h n (by omega)
    have ih := norm_id hπ n q r (fun j hj => by
      have h1 := h j (by omega)
      have h2 := hq2 (r j)
      have h3 : dv π ((r j - r n) * sm (fun i => q i * r j ^ i) (n + 1)) := by rw [← h2]; exact dv_sub h1 hrt
      rcases hπ _ _ h3 with h4 | h4
      · exact absurd h4 (hd j n (by omega) (by omega))
      · exact h4) (fun j k h1 h2 => hd j k h1 (by omega)) y
    have h2 := hq2 y
    obtain ⟨u, hu⟩ := hrt
    obtain ⟨v, hv⟩ := ih
    refine ⟨u + (y - r n) * v, ?_⟩
    show _ - c (n + 1) * (pdn (fun j => y - r j) n * (y - r n)) = _
    rw [← hq1]
    have e1 : sm (fun i => c i * y ^ i) (n + 1 + 1) = (y - r n) * sm (fun i => q i * y ^ i) (n + 1) + π * u := by rw [← h2, ← hu]; grind
    have e2 : sm (fun i => q i * y ^ i) (n + 1) = q n * pdn (fun j => y - r j) n + π * v := by rw [← hv]; grind
    rw [e1, e2]
    grind
def sg {S : Type} [Lean.Grind.CommRing S] : Nat → S
  | 0 => 1
  | n + 1 => - sg n
theorem sg_sq {S : Type} [Lean.Grind.CommRing S] : ∀ (n : Nat), (sg n : S) * sg n = 1
  | 0 => by simp only [sg]; grind
  | n + 1 => by simp only [sg]; have := sg_sq (S := S) n; grind
theorem pdn_sg {S : Type} [Lean.Grind.CommRing S] (F : Nat → S) : ∀ (n : Nat), pdn (fun i => - F i) n = sg n * pdn F n
  | 0 => by simp only [pdn, sg]; grind
  | n + 1 => by simp only [pdn, sg]; rw [pdn_sg F n]; grind
theorem pdn_congr {S : Type} [Lean.Grind.CommRing S] {F G : Nat → S} : ∀ {n : Nat}, (∀ i, i < n → F i = G i) → pdn F n = pdn G n
  | 0, _ => rfl
  | n + 1, h => by simp only [pdn]; rw [pdn_congr (fun i hi => h i (by omega)), h n (by omega)]
theorem sg_mo {R S : Type} [Lean.Grind.CommRing R] [Lean.Grind.CommRing S] {co : S → Nat → R} (P : isPol co) : ∀ (n : Nat), (sg n : S) = mo P (sg n) 0
  | 0 => by simp only [sg]; exact (mo_one P).symm
  | n + 1 => by
    simp only [sg]
    rw [sg_mo P n]
    refine p_ext P (fun i => ?_)
    rw [p_neg P, mo_co P, mo_co P]
    split <;> grind
theorem ev_c {R S : Type} [Lean.Grind.CommRing R] [Lean.Grind.CommRing S] {co : S → Nat → R} (P : isPol co) (f : S) (c : R) : ev P f (mo P c 0) = mo P (eq P f c) 0 := by
  unfold ev eq
  refine p_ext P (fun k => ?_)
  rw [sm_co P, mo_co P]
  by_cases hk : k = 0
  · rw [if_pos hk]
    refine sm_congr (fun i _ => ?_)
    rw [mo_pw P, mo_mm P, Nat.zero_mul, mo_co P, if_pos hk]
  · rw [if_neg hk]
    exact sm_zero (fun i _ => by rw [mo_pw P, mo_mm P, Nat.zero_mul, mo_co P, if_neg hk])
theorem irr_pr {S : Type} [Lean.Grind.CommRing S] {N : S → Nat} (E : EU S N) {π : S} (h : irr N π) : ∀ a b, dv π (a * b) → dv π a ∨ dv π b := fun _ _ h1 => irr_dv E h h1
theorem conj_ne {R S : Type} [Lean.Grind.CommRing R] [Lean.Grind.CommRing S] {co : S → Nat → R} (P : isPol co) {p : Nat} (h : isZp R p) {π : S} (hπ : irr (nu co) π) {i j : Nat} (hij : i < j) (hj : j < nu co π - 1) : ¬ dv π (mo P 1 1 ^ (p ^ i) - mo P 1 1 ^ (p ^ j)) := by
  intro h1
  have e : p ^ j = p ^ (j - i) * p ^ i := by rw [← Nat.pow_add, show j - i + i = j by omega]
  rw [e, pw_mul] at h1
  have h2 := cg_inj P h hπ h1
  have h3 := (conj_iff P h hπ (d := j - i)).mp (cg_symm h2)
  have := Nat.le_of_dvd (by omega) h3
  omega
theorem norm_c {R S : Type} [Lean.Grind.CommRing R] [Lean.Grind.CommRing S] {co : S → Nat → R} (P : isPol co) {p : Nat} (h : isZp R p) {π : S} (hπ : irr (nu co) π) (hm : co π (nu co π - 1) = 1) (c : R) : dv π (pdn (fun j => mo P 1 1 ^ (p ^ j) + mo P c 0) (nu co π - 1) - mo P (sg (nu co π - 1) * eq P π (-c)) 0) := by
  have hE := pol_EU P h.2.2.1
  have h2 := hπ.1
  have key := norm_id (irr_pr hE hπ) (nu co π - 1) (fun i => mo P (co π i) 0) (fun j => mo P 1 1 ^ (p ^ j)) (fun j hj => by
    rw [show nu co π - 1 + 1 = nu co π by omega]
    show dv π (ev P π (mo P 1 1 ^ (p ^ j)))
    rw [← ev_pd P h, ev_X P]
    have hpos : p ^ j ≠ 0 := Nat.pos_iff_ne_zero.mp (Nat.pow_pos (by have := h.1.1; omega))
    obtain ⟨m, hm⟩ : ∃ m, p ^ j = m + 1 := ⟨p ^ j - 1, by omega⟩
    rw [hm, pw_succ]
    exact dv_r _ _) (fun i j hij hj => conj_ne P h hπ hij hj) (mo P (-c) 0)
  rw [show nu co π - 1 + 1 = nu co π by omega] at key
  have e1 : sm (fun i => mo P (co π i) 0 * mo P (-c) 0 ^ i) (nu co π) = mo P (eq P π (-c)) 0 := ev_c P π (-c)
  have e2 : pdn (fun j => mo P (-c) 0 - mo P 1 1 ^ (p ^ j)) (nu co π - 1) = sg (nu co π - 1) * pdn (fun j => mo P 1 1 ^ (p ^ j) + mo P c 0) (nu co π - 1) := by
    rw [← pdn_sg]
    refine pdn_congr (fun i _ => ?_)
    have : mo P (-c) 0 = - mo P c 0 := p_ext P (fun k => by rw [p_neg P, mo_co P, mo_co P]; split <;> grind)
    rw [this]; grind
  rw [e1, e2, hm, mo_one P] at key
  have h3 := dv_mull (sg (nu co π - 1)) key
  have h4 := sg_sq (S := S) (nu co π - 1)
  have e3 : mo P (sg (nu co π - 1) * eq P π (-c)) 0 = sg (nu co π - 1) * mo P (eq P π (-c)) 0 := by rw [sg_mo P, mo_mm P]
  rw [e3]
  obtain ⟨w, hw⟩ := h3
  exact ⟨-w, by grind⟩
theorem irr_mon {R S : Type} [Lean.Grind.CommRing R] [Lean.Grind.CommRing S] {co : S → Nat → R} (P : isPol co) (hF : isF R) {π : S} (hπ : irr (nu co) π) : ∃ π', irr (nu co) π' ∧ co π' (nu co π' - 1) = 1 ∧ dv π π' ∧ dv π' π := by
  have h2 := hπ.1
  have ht := nu_top P π (by omega)
  obtain ⟨c, hc⟩ := hF.2 _ ht
  have hc0 : c ≠ 0 := fun q => hF.1 (by rw [← hc, q]; grind)
  have hD := isF_D hF
  have hN : ∀ g : S, nu co (mo P c 0 * g) = nu co g := fun g => nu_eq P (fun i hi => by rw [mo_0 P, nu_hi P g hi]; grind) (fun h0 q => by
    rw [mo_0 P] at q
    rcases hD _ _ q with a | a
    · exact hc0 a
    · exact nu_top P g h0 a)
  have e : mo P (co π (nu co π - 1)) 0 * (mo P c 0 * π) = π := by
    have : mo P (co π (nu co π - 1)) 0 * mo P c 0 = 1 := by rw [mo_mm P, hc, mo_one P]
    grind
  refine ⟨mo P c 0 * π, ⟨by rw [hN]; exact h2, fun a b hab => ?_⟩, by rw [hN, mo_0 P]; grind, ⟨mo P c 0, by grind⟩, ⟨mo P (co π (nu co π - 1)) 0, by grind⟩⟩
  have h3 : π = (mo P (co π (nu co π - 1)) 0 * a) * b := by rw [← e, hab]; grind
  have hlN : nu co (mo P (co π (nu co π - 1)) 0 * a) = nu co a := nu_eq P (fun i hi => by rw [mo_0 P, nu_hi P a hi]; grind) (fun h0 q => by
    rw [mo_0 P] at q
    rcases hD _ _ q with z | z
    · exact ht z
    · exact nu_top P a h0 z)
  rcases hπ.2 _ _ h3 with q | q
  · exact Or.inl (by rw [← hlN]; exact q)
  · exact Or.inr q
theorem pm1 {R : Type} [Lean.Grind.CommRing R] {p : Nat} (h : isZp R p) (hodd : p % 2 = 1) {z : R} (hz : z ≠ 0) : z ^ ((p - 1) / 2) = 1 ∨ z ^ ((p - 1) / 2) = -1 := by
  have h2 := h.1.1
  have h1 := fermat1 h hz
  rw [show p - 1 = (p - 1) / 2 + (p - 1) / 2 by omega, pw_add] at h1
  have hD := isF_D h.2.2.1
  rcases hD (z ^ ((p - 1) / 2) - 1) (z ^ ((p - 1) / 2) + 1) (by grind) with q | q
  · exact Or.inl (by grind)
  · exact Or.inr (by grind)
theorem one_ne {R : Type} [Lean.Grind.CommRing R] {p : Nat} (h : isZp R p) (hodd : p % 2 = 1) : (1 : R) ≠ -1 := fun q => by
  have h2 := h.1.1
  have := h.2.2.2.2 2 (by omega) (by omega)
  exact this (by rw [nt_succ, nt_one]; grind)
theorem sep1 {R : Type} [Lean.Grind.CommRing R] {p : Nat} (h : isZp R p) (hodd : p % 2 = 1) {δ : R} (hδ : δ ≠ 0) (hall : ∀ y : R, y ^ ((p - 1) / 2) = 1 ↔ (y + δ) ^ ((p - 1) / 2) = 1) : False := by
  have h2 := h.1.1
  have hM : (p - 1) / 2 ≠ 0 := by omega
  have hk : ∀ k : Nat, ¬ (nt k * δ) ^ ((p - 1) / 2) = 1 := by
    intro k
    induction k with
    | zero => intro q; rw [nt_zero, show (0 : R) * δ = 0 by grind, pw_z hM] at q; exact h.2.2.1.1 q.symm
    | succ k ih =>
      intro q
      rw [nt_succ, show (nt k + 1) * δ = nt k * δ + δ by grind] at q
      exact ih ((hall _).mpr q)
  obtain ⟨b, hb⟩ := h.2.2.1.2 δ hδ
  obtain ⟨m, hm, hbm⟩ := h.2.2.2.1 b
  exact hk m (by rw [← hbm, show b * δ = 1 by grind, pw_one])
theorem sep_ex {R T : Type} [Lean.Grind.CommRing R] [Lean.Grind.CommRing T] {ct : T → Nat → R} (K : isPol ct) {p : Nat} (h : isZp R p) (hp : 100000000000 < p) (hodd : p % 2 = 1) {π ρ : T} (h1 : irr (nu ct) π) (h2 : irr (nu ct) ρ) (m1 : ct π (nu ct π - 1) = 1) (m2 : ct ρ (nu ct ρ - 1) = 1) (hc : cop π ρ) (hN : nu ct π = nu ct ρ) (hd : nu ct (π * ρ) ≤ 11) : ∃ c : R, ¬ ((sg (nu ct π - 1) * eq K π (-c)) ^ ((p - 1) / 2) = 1 ↔ (sg (nu ct π - 1) * eq K ρ (-c)) ^ ((p - 1) / 2) = 1) := by
  apply Classical.byContradiction
  intro hno
  have hall : ∀ c : R, ((sg (nu ct π - 1) * eq K π (-c)) ^ ((p - 1) / 2) = 1 ↔ (sg (nu ct π - 1) * eq K ρ (-c)) ^ ((p - 1) / 2) = 1) := fun c => Classical.byContradiction fun q => hno ⟨c, q⟩
  have hF := h.2.2.1
  have hE := pol_EU K hF
  have n1 := h1.1
  by_cases hd1 : nu ct π = 2
  · have e : ∀ (σ : T), nu ct σ = 2 → ct σ (nu ct σ - 1) = 1 → ∀ c, sg 1 * eq K σ (-c) = c - ct σ 0 := fun σ hσ hσ1 c => by
      rw [eq_n K σ (-c) (n := 2) (by omega)]
      simp only [sm, sg]
      rw [hσ] at hσ1
      rw [show ct σ 1 = 1 from hσ1, pw1, pw_zero]
      grind
    have hall' : ∀ c : R, (c - ct π 0) ^ ((p - 1) / 2) = 1 ↔ (c - ct ρ 0) ^ ((p - 1) / 2) = 1 := fun c => by
      have := hall c
      rw [hd1, show 2 - 1 = 1 from rfl, e π hd1 m1, e ρ (by omega) m2] at this
      exact this
    have hδ : ct π 0 - ct ρ 0 ≠ 0 := fun q => by
      have e2 : π = ρ := p_ext K (fun i => by
        have hc : i = 0 ∨ i = 1 ∨ 2 ≤ i := by omega
        rcases hc with z | z | z
        · rw [z]; grind
        · rw [hd1] at m1
          rw [← hN, hd1] at m2
          rw [z, show ct π 1 = 1 from m1, show ct ρ 1 = 1 from m2]
        · rw [nu_hi K π (by omega), nu_hi K ρ (by omega)])
      exact cop_not hE h1 hc (dv_refl _) (by rw [← e2]; exact dv_refl _)
    refine sep1 h hodd hδ (fun y => ?_)
    have := hall' (y + ct π 0)
    rw [show y + ct π 0 - ct π 0 = y by grind, show y + ct π 0 - ct ρ 0 = y + (ct π 0 - ct ρ 0) by grind] at this
    exact this
  · have hnz : ∀ (σ : T), irr (nu ct) σ → nu ct σ ≠ 2 → ∀ c, eq K σ c ≠ 0 := fun σ hσ hs c q => by
      have h3 := eq_lin K σ c
      rw [q, mo_zero] at h3
      obtain ⟨w, hw⟩ := h3
      have h4 : σ = (mo K 1 1 - mo K c 0) * w := by grind
      have h5 := X_ne K hF c
      rcases hσ.2 _ _ h4 with z | z
      · omega
      · have hw0 : w ≠ 0 := fun q => by rw [(nu_zero K).mpr q] at z; omega
        have hx0 : mo K 1 1 - mo K c 0 ≠ 0 := fun q => by rw [(nu_zero K).mpr q] at h5; omega
        have := nu_mul K (isF_D hF) hx0 hw0
        rw [← h4] at this
        omega
    refine @stepanov R T (PL T) _ _ (plR T) ct K _ (pl_isPol T) p h hp π ρ h1 hc hd (fun c => ?_)
    have h3 := hall (-c)
    have hs := sg_sq (S := R) (nu ct π - 1)
    have hs0 : (sg (nu ct π - 1) : R) ≠ 0 := fun q => hF.1 (by rw [← hs, q]; grind)
    rw [show - -c = c by grind] at h3
    have hD := isF_D hF
    have z1 : sg (nu ct π - 1) * eq K π c ≠ 0 := fun q => (hD _ _ q).elim hs0 (hnz π h1 hd1 c)
    have z2 : sg (nu ct π - 1) * eq K ρ c ≠ 0 := fun q => (hD _ _ q).elim hs0 (hnz ρ h2 (by omega) c)
    have e : eq K (π * ρ) c = (sg (nu ct π - 1) * eq K π c) * (sg (nu ct π - 1) * eq K ρ c) := by rw [eq_mul]; grind
    rw [e, pw_mm]
    have h11 := one_ne h hodd
    rcases pm1 h hodd z1 with a | a <;> rcases pm1 h hodd z2 with b | b
    · rw [a, b]; grind
    · exact absurd (b ▸ h3.mp a) (fun q => h11 q.symm)
    · exact absurd (a ▸ h3.mpr b) (fun q => h11 q.symm)
    · rw [a, b]; grind
end MSplit
