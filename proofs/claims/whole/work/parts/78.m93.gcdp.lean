/-! common divisors by a prime; square-free parts -/
section MGcdp
/-- h: the common divisor by p; the whole one divides it there -/
theorem gp_ge {S T R : Type} [Lean.Grind.CommRing S] [Lean.Grind.CommRing T] [Lean.Grind.CommRing R] {co : S → Nat → Int} (P : isPol co) {ct : T → Nat → R} (K : isPol ct) {p : Nat} (hp : isZp R p) {φ : Int → R} (hφ : isRed φ p) {a b g : S} {h u v : T} (hga : dv g a) (hgb : dv g b) (hh : h = u * rd P K hp hφ a + v * rd P K hp hφ b) : dv (rd P K hp hφ g) h := by
  rw [hh]; exact dv_add (dv_mull u (rd_dv P K hp hφ hga)) (dv_mull v (rd_dv P K hp hφ hgb))
theorem gp_le {S T R : Type} [Lean.Grind.CommRing S] [Lean.Grind.CommRing T] [Lean.Grind.CommRing R] {co : S → Nat → Int} (P : isPol co) {ct : T → Nat → R} (K : isPol ct) {p : Nat} (hp : isZp R p) {φ : Int → R} (hφ : isRed φ p) {a b g u v : S} {C : Int} {h : T} (hC : ¬ (p : Int) ∣ C) (he : mo P C 0 * g = u * a + v * b) (h1 : dv h (rd P K hp hφ a)) (h2 : dv h (rd P K hp hφ b)) : dv h (rd P K hp hφ g) := by
  have hF := hp.2.2.1
  have h3 : dv h (rd P K hp hφ (mo P C 0 * g)) := by
    rw [he, rd_add, rd_mul, rd_mul]; exact dv_add (dv_mull _ h1) (dv_mull _ h2)
  rw [rd_mul, rd_mo] at h3
  have hc : φ C ≠ 0 := fun q => hC ((hφ.2.2.1 C).mp q)
  obtain ⟨d, hd⟩ := hF.2 _ hc
  have h4 := dv_mull (mo K d 0) h3
  have e : mo K d 0 * (mo K (φ C) 0 * rd P K hp hφ g) = rd P K hp hφ g := by
    have : mo K d 0 * mo K (φ C) 0 = (1 : T) := by rw [mo_mm, show d * φ C = φ C * d by grind, hd, mo_one]
    grind
  rw [e] at h4
  exact h4
/-- rows that divide each other, the one with head 1 -/
theorem mon_eq {R T : Type} [Lean.Grind.CommRing R] [Lean.Grind.CommRing T] {ct : T → Nat → R} (K : isPol ct) (hF : isF R) {g h : T} (hg : g ≠ 0) (h1 : dv g h) (h2 : dv h g) (hm : ct h (nu ct h - 1) = 1) : g = mo K (ct g (nu ct g - 1)) 0 * h := by
  have E := pol_EU K hF
  obtain ⟨c, hc⟩ := h2
  have hh : h ≠ 0 := by intro q; apply hg; rw [hc, q]; grind
  have hc0 : c ≠ 0 := by intro q; apply hg; rw [hc, q]; grind
  have n1 := eu_le E h1 hh
  have n2 := E.2.1 h c hh hc0
  rw [← hc] at n2
  have n3 : nu ct c ≠ 0 := fun q => hc0 ((nu_zero K).mp q)
  have hh0 : nu ct h ≠ 0 := fun q => hh ((nu_zero K).mp q)
  obtain ⟨d, hd, hcd⟩ := c_unit K hF (show nu ct c = 1 by omega)
  have e : ct g (nu ct g - 1) = d := by
    rw [show nu ct g = nu ct h by omega]
    have : ct g (nu ct h - 1) = d * ct h (nu ct h - 1) := by rw [hc, hcd, show h * mo K d 0 = mo K d 0 * h by grind, mo_0 K]
    rw [this, hm]; grind
  rw [e, hc, hcd]; grind
/-- the candidate is the common divisor, when p doesn't mislead -/
theorem gp_lift {S T R : Type} [Lean.Grind.CommRing S] [Lean.Grind.CommRing T] [Lean.Grind.CommRing R] {co : S → Nat → Int} (P : isPol co) {ct : T → Nat → R} (K : isPol ct) {p : Nat} (hp : isZp R p) {φ : Int → R} (hφ : isRed φ p) {a g w : S} {h : T} {s : Int} (hg : prim co g) (hg1 : 0 < co g (nu co g - 1)) (hl : ¬ (p : Int) ∣ co g (nu co g - 1)) (hd1 : dv (rd P K hp hφ g) h) (hd2 : dv h (rd P K hp hφ g)) (hm : ct h (nu ct h - 1) = 1) {k : Int} (hk : 0 < k) (hs : s = co g (nu co g - 1) * k) (hB : ∀ i, 2 * nz (k * co g i) < p) {l C : S} {e : Int} (hl1 : ∀ i, 2 * nz (co l i) < p) (hl2 : rd P K hp hφ l = mo K (φ s) 0 * h) (he : 0 < e) (hC : prim co C) (hC1 : 0 < co C (nu co C - 1)) (hlC : l = mo P e 0 * C) : C = g := by
  have hF := hp.2.2.1
  have hN := rd_N P K hp hφ hl
  have hg0 := prim_ne P hg
  have hrg : rd P K hp hφ g ≠ 0 := fun q => by
    have := (nu_zero K).mpr q
    rw [hN] at this
    exact hg0 ((nu_zero P).mp this)
  have e1 := mon_eq K hF hrg hd1 hd2 hm
  rw [hN, rd_co P K hp hφ] at e1
  have hle : l = mo P k 0 * g := by
    refine lift_u P K hp hφ hl1 (fun i => by rw [mo_0 P]; exact hB i) ?_
    rw [hl2, rd_mul, rd_mo, e1, hs, hφ.2.1]
    have : mo K (φ (co g (nu co g - 1)) * φ k) 0 = mo K (φ (co g (nu co g - 1))) 0 * mo K (φ k) 0 := by rw [mo_mm]
    rw [this]; grind
  rw [hlC] at hle
  exact prim_uq P he hk hC hg hC1 hg1 hle
/-- a candidate that divides both is the common divisor -/
theorem gp_test {S T R : Type} [Lean.Grind.CommRing S] [Lean.Grind.CommRing T] [Lean.Grind.CommRing R] {co : S → Nat → Int} (P : isPol co) {ct : T → Nat → R} (K : isPol ct) {p : Nat} (hp : isZp R p) {φ : Int → R} (hφ : isRed φ p) {a b g u v : S} {c0 : Int} {h : T} (hc0 : c0 ≠ 0) (he0 : mo P c0 0 * g = u * a + v * b) (hg : prim co g) (hg1 : 0 < co g (nu co g - 1)) (hl : ¬ (p : Int) ∣ co g (nu co g - 1)) (hd1 : dv (rd P K hp hφ g) h) (hh : h ≠ 0) {C : S} (hC : prim co C) (hC1 : 0 < co C (nu co C - 1)) (hN : nu co C = nu ct h) (hCa : dv C a) (hCb : dv C b) : C = g := by
  have hF := hp.2.2.1
  have E := pol_EU K hF
  have hdv := z_gcd_dv P hc0 he0 hC hCa hCb
  have n1 := eu_le E hd1 hh
  rw [rd_N P K hp hφ hl] at n1
  obtain ⟨k, hk⟩ := hdv
  have hg0 := prim_ne P hg
  have hk0 : k ≠ 0 := by intro q; apply hg0; rw [hk, q]; grind
  have n2 := nu_mul P int_D (prim_ne P hC) hk0
  rw [← hk] at n2
  have n3 : nu co k ≠ 0 := fun q => hk0 ((nu_zero P).mp q)
  rcases prim_c P (prim_dv P hg ⟨C, by rw [hk]; grind⟩) (show nu co k = 1 by omega) with z | z
  · rw [hk, z]; grind
  · exfalso
    rw [hk, z, show C * -1 = -C by grind] at hg1
    have hn : nu co (-C) = nu co C := nu_eq P (fun i hi => by rw [p_neg P, nu_hi P C hi]; grind) (fun _ => by rw [p_neg P]; omega)
    rw [hn, p_neg P] at hg1
    omega
/-- the derivative of an irreducible row isn't a multiple of it, below p -/
theorem irr_dr {R T : Type} [Lean.Grind.CommRing R] [Lean.Grind.CommRing T] {ct : T → Nat → R} (K : isPol ct) {p : Nat} (h : isZp R p) {σ : T} (hσ : irr (nu ct) σ) (hd : nu ct σ ≤ p) : ¬ dv σ (dr K σ) := by
  have hF := h.2.2.1
  have E := pol_EU K hF
  have h2 := hσ.1
  intro hdv
  have hne : dr K σ ≠ 0 := by
    intro q
    have h3 : ct (dr K σ) (nu ct σ - 2) = 0 := by rw [q, p_zero K]
    rw [dr_co K, show nu ct σ - 2 + 1 = nu ct σ - 1 by omega] at h3
    rcases isF_D hF _ _ h3 with z | z
    · exact h.2.2.2.2 (nu ct σ - 1) (by omega) (by omega) z
    · exact nu_top K σ (by omega) z
  have h3 := eu_le E hdv hne
  have h4 : nu ct (dr K σ) ≤ nu ct σ - 1 := nu_le K (fun i hi => by rw [dr_co K, nu_hi K σ (by omega)]; grind)
  omega
theorem dr_pw {R T : Type} [Lean.Grind.CommRing R] [Lean.Grind.CommRing T] {ct : T → Nat → R} (K : isPol ct) (σ : T) : ∀ (e : Nat), dr K (σ ^ (e + 1)) = nt (e + 1) * σ ^ e * dr K σ
  | 0 => by rw [pw1, pw_zero, nt_one]; grind
  | e + 1 => by
    rw [pw_succ, dr_mul, dr_pw K σ e, nt_succ (e + 1), pw_succ σ e]; grind
/-- the powers of a factor: one less in the common divisor with the derivative -/
theorem gd_pw {R T : Type} [Lean.Grind.CommRing R] [Lean.Grind.CommRing T] {ct : T → Nat → R} (K : isPol ct) {p : Nat} (h : isZp R p) {σ f k : T} (hσ : irr (nu ct) σ) (hd : nu ct σ ≤ p) {e : Nat} (he : e + 1 < p) (hf : f = σ ^ (e + 1) * k) (hk : ¬ dv σ k) : dv (σ ^ e) (dr K f) ∧ ¬ dv (σ ^ (e + 1)) (dr K f) := by
  have hF := h.2.2.1
  have E := pol_EU K hF
  have h1 : dr K f = σ ^ e * (nt (e + 1) * dr K σ * k + σ * dr K k) := by
    rw [hf, dr_mul, dr_pw, pw_succ]; grind
  refine ⟨⟨_, h1⟩, ?_⟩
  rintro ⟨c, hc⟩
  rw [h1, pw_succ] at hc
  have hs0 : σ ^ e ≠ 0 := (nu_pw K hF (irr_ne E hσ) e).2
  have h2 : nt (e + 1) * dr K σ * k + σ * dr K k = σ * c := eu_cancel E hs0 (by rw [hc]; grind)
  have h3 : dv σ (nt (e + 1) * dr K σ * k) := ⟨c - dr K k, by grind⟩
  rcases irr_dv E hσ h3 with z | z
  · rcases irr_dv E hσ z with z | z
    · rw [mo_nt K] at z
      exact unit_no K hF hσ (h.2.2.2.2 (e + 1) (by omega) he) z
    · exact irr_dr K h hσ hd z
  · exact hk z
/-- f less its common divisor with the derivative is square-free -/
theorem sq_part {R T : Type} [Lean.Grind.CommRing R] [Lean.Grind.CommRing T] {ct : T → Nat → R} (K : isPol ct) {p : Nat} (h : isZp R p) {f g w : T} (hf : f ≠ 0) (hN : nu ct f < p) (hfg : f = g * w) (hg1 : dv g (dr K f)) {u v : T} (hg : g = u * f + v * dr K f) : sqf (nu ct) w := by
  have hF := h.2.2.1
  have E := pol_EU K hF
  intro σ hσ hsq
  have hσf : dv σ f := by rw [hfg]; exact dv_mull g (dv_trans ⟨σ, rfl⟩ hsq)
  obtain ⟨a, k, hfk, hk⟩ := max_pw E hσ (nu ct f) f (Nat.le_refl _) hf
  have ha : a ≠ 0 := by
    intro z
    rw [z, pw_zero] at hfk
    exact hk (by rw [show k = f by grind]; exact hσf)
  obtain ⟨e, rfl⟩ : ∃ e, a = e + 1 := ⟨a - 1, by omega⟩
  have hs0 := irr_ne E hσ
  have hk0 : k ≠ 0 := by intro z; apply hf; rw [hfk, z]; grind
  have hNs := (nu_pw K hF hs0 (e + 1)).1
  have h2 := E.2.1 (σ ^ (e + 1)) k (nu_pw K hF hs0 (e + 1)).2 hk0
  rw [← hfk, hNs] at h2
  have hk1 : nu ct k ≠ 0 := fun z => hk0 ((nu_zero K).mp z)
  have hs2 := hσ.1
  have he : e + 1 ≤ (e + 1) * (nu ct σ - 1) := by
    calc e + 1 = (e + 1) * 1 := (Nat.mul_one _).symm
      _ ≤ (e + 1) * (nu ct σ - 1) := Nat.mul_le_mul_left _ (by omega)
  have hσN := eu_le E hσf hf
  obtain ⟨h3, h4⟩ := gd_pw K h hσ (by omega) (show e + 1 < p by omega) hfk hk
  -- sigma^e divides g, and w has the square: one power too many
  have h5 : dv (σ ^ e) g := by
    rw [hg]
    refine dv_add (dv_mull u ?_) (dv_mull v h3)
    rw [hfk, pw_succ]; exact ⟨σ * k, by grind⟩
  obtain ⟨g', hg'⟩ := h5
  obtain ⟨w', hw'⟩ := hsq
  have h6 : σ ^ (e + 1) * k = σ ^ (e + 1) * (σ * (g' * w')) := by
    rw [← hfk, hfg, hg', hw', pw_succ]; grind
  exact hk ⟨g' * w', eu_cancel E (nu_pw K hF hs0 (e + 1)).2 h6⟩
end MGcdp
