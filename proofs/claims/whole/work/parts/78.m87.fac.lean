/-! the derivative; lists of factors; common divisors with a square-free row -/
section MFac
noncomputable def dr {R S : Type} [Lean.Grind.CommRing R] [Lean.Grind.CommRing S] {co : S → Nat → R} (P : isPol co) (f : S) : S := Classical.choose (P.2.2.2.2.1 (fun i => nt (i + 1) * co f (i + 1)) (nu co f) (fun i hi => by rw [nu_hi P f (by omega)]; grind))
theorem dr_co {R S : Type} [Lean.Grind.CommRing R] [Lean.Grind.CommRing S] {co : S → Nat → R} (P : isPol co) (f : S) (i : Nat) : co (dr P f) i = nt (i + 1) * co f (i + 1) := Classical.choose_spec (P.2.2.2.2.1 (fun i => nt (i + 1) * co f (i + 1)) (nu co f) (fun i hi => by rw [nu_hi P f (by omega)]; grind)) i
theorem dr_add {R S : Type} [Lean.Grind.CommRing R] [Lean.Grind.CommRing S] {co : S → Nat → R} (P : isPol co) (f g : S) : dr P (f + g) = dr P f + dr P g := p_ext P (fun i => by rw [p_add P, dr_co P, dr_co P, dr_co P, p_add P]; grind)
theorem dr_sub {R S : Type} [Lean.Grind.CommRing R] [Lean.Grind.CommRing S] {co : S → Nat → R} (P : isPol co) (f g : S) : dr P (f - g) = dr P f - dr P g := p_ext P (fun i => by rw [p_sub P, dr_co P, dr_co P, dr_co P, p_sub P]; grind)
theorem dr_mul {R S : Type} [Lean.Grind.CommRing R] [Lean.Grind.CommRing S] {co : S → Nat → R} (P : isPol co) (f g : S) : dr P (f * g) = dr P f * g + f * dr P g := by
  refine p_ext P (fun k => ?_)
  rw [dr_co P, p_add P, p_mul P, p_mul P, p_mul P, ← sm_mul]
  have h1 : sm (fun i => nt (k + 1) * (co f i * co g (k + 1 - i))) (k + 1 + 1) = sm (fun i => nt i * co f i * co g (k + 1 - i)) (k + 1 + 1) + sm (fun i => co f i * (nt (k + 1 - i) * co g (k + 1 - i))) (k + 1 + 1) := by
    rw [← sm_add]
    refine sm_congr (fun i hi => ?_)
    have : (nt (k + 1) : R) = nt i + nt (k + 1 - i) := by rw [← nt_add, show i + (k + 1 - i) = k + 1 by omega]
    rw [this]; grind
  rw [h1, sm_front (fun i => nt i * co f i * co g (k + 1 - i)) (k + 1), sm_succ (fun i => co f i * (nt (k + 1 - i) * co g (k + 1 - i))) (k + 1), Nat.sub_self, nt_zero]
  have h2 : sm (fun i => nt (i + 1) * co f (i + 1) * co g (k + 1 - (i + 1))) (k + 1) = sm (fun i => co (dr P f) i * co g (k - i)) (k + 1) := sm_congr (fun i hi => by rw [dr_co P, Nat.add_sub_add_right])
  have h3 : sm (fun i => co f i * (nt (k + 1 - i) * co g (k + 1 - i))) (k + 1) = sm (fun i => co f i * co (dr P g) (k - i)) (k + 1) := sm_congr (fun i hi => by rw [dr_co P, show k - i + 1 = k + 1 - i by omega])
  rw [h2, h3]; grind
theorem dr_mo {R S : Type} [Lean.Grind.CommRing R] [Lean.Grind.CommRing S] {co : S → Nat → R} (P : isPol co) (c : R) (k : Nat) : dr P (mo P c (k + 1)) = mo P (nt (k + 1) * c) k := by
  refine p_ext P (fun i => ?_)
  rw [dr_co P, mo_co P, mo_co P]
  by_cases h : i = k
  · rw [if_pos (by omega), if_pos h, h]
  · rw [if_neg (by omega), if_neg h]; grind
theorem nt_dvz {R : Type} [Lean.Grind.CommRing R] {p : Nat} (h : (nt p : R) = 0) {n : Nat} (hn : p ∣ n) : (nt n : R) = 0 := by
  obtain ⟨c, rfl⟩ := hn
  rw [nt_mul, h]; grind
def sqf {S : Type} [Lean.Grind.CommRing S] (N : S → Nat) (w : S) : Prop := ∀ π, irr N π → ¬ dv (π * π) w
theorem Xq_sqf {R S : Type} [Lean.Grind.CommRing R] [Lean.Grind.CommRing S] {co : S → Nat → R} (P : isPol co) {p : Nat} (h : isZp R p) {d : Nat} (hd : 1 ≤ d) : sqf (nu co) (mo P 1 1 ^ (p ^ d) - mo P 1 1) := by
  intro π hπ ⟨c, hc⟩
  have hF := h.2.2.1
  have hp := h.1.1
  obtain ⟨q, hq⟩ : ∃ q, p ^ d = q + 1 := ⟨p ^ d - 1, by have := Nat.pow_pos (n := d) (show 0 < p by omega); omega⟩
  have h1 : dr P (mo P 1 1 ^ (p ^ d) - mo P 1 1) = 0 - mo P 1 0 := by
    rw [dr_sub, mo_pw, hq, Nat.one_mul, dr_mo, show (1 : Nat) = 0 + 1 from rfl, dr_mo, ← hq]
    rw [nt_dvz h.2.1 (n := p ^ d) (by obtain ⟨e, rfl⟩ : ∃ e, d = e + 1 := ⟨d - 1, by omega⟩
                                      rw [Nat.pow_succ]; exact Nat.dvd_mul_left _ _)]
    rw [show (0 : R) * 1 ^ (p ^ d) = 0 by grind, mo_zero, show (0 : Nat) + 1 = 1 from rfl, nt_one]
    rw [show (1 : R) * 1 = 1 by grind]
  rw [hc, dr_mul, dr_mul] at h1
  refine unit_no P hF hπ hF.1 ?_
  exact ⟨-(dr P π * c + dr P π * c + π * dr P c), by grind⟩
def FL {S : Type} [Lean.Grind.CommRing S] (N : S → Nat) (f : S) (L : List S) : Prop := (∀ π ∈ L, irr N π ∧ dv π f) ∧ L.Pairwise cop ∧ ∀ ρ, irr N ρ → dv ρ f → ∃ π ∈ L, dv π ρ
theorem irr_sym {S : Type} [Lean.Grind.CommRing S] {N : S → Nat} (E : EU S N) {π ρ : S} (h : irr N π) (h1 : irr N ρ) (h2 : dv π ρ) : dv ρ π := by
  obtain ⟨c, hc, h3⟩ := irr_assoc E h h1 h2
  obtain ⟨b, hb⟩ := eu_unit E hc
  exact ⟨b, by grind⟩
theorem FL_ex {S : Type} [Lean.Grind.CommRing S] {N : S → Nat} (E : EU S N) : ∀ (n : Nat) (f : S), N f ≤ n → f ≠ 0 → ∃ L, FL N f L
  | 0, f, h, h1 => absurd ((E.1 f).mp (by omega)) h1
  | n + 1, f, h, h1 => by
    by_cases hu : N f = 1
    · refine ⟨[], fun π hm => (by simp at hm), List.Pairwise.nil, fun ρ hρ hd => ?_⟩
      have := eu_le E hd h1
      have := hρ.1
      omega
    · have h0 : N f ≠ 0 := fun q => h1 ((E.1 f).mp q)
      obtain ⟨π, hπ, g, hg⟩ := irr_ex E (N f) f (Nat.le_refl _) (by omega)
      have hg0 : g ≠ 0 := by intro q; apply h1; rw [hg, q]; grind
      have h2 := E.2.1 π g (irr_ne E hπ) hg0
      rw [← hg] at h2
      have := hπ.1
      obtain ⟨L, hL1, hL2, hL3⟩ := FL_ex E n g (by omega) hg0
      by_cases hex : ∃ ρ ∈ L, dv ρ π
      · obtain ⟨ρ, hρ, hρπ⟩ := hex
        refine ⟨L, fun σ hσ => ⟨(hL1 σ hσ).1, by rw [hg]; exact dv_mull π (hL1 σ hσ).2⟩, hL2, fun σ hσ hσf => ?_⟩
        rw [hg] at hσf
        rcases irr_dv E hσ hσf with h3 | h3
        · exact ⟨ρ, hρ, dv_trans hρπ (irr_sym E hσ hπ h3)⟩
        · exact hL3 σ hσ h3
      · refine ⟨π :: L, ?_, ?_, ?_⟩
        · intro σ hσ
          rcases List.mem_cons.mp hσ with rfl | h3
          · exact ⟨hπ, ⟨g, hg⟩⟩
          · exact ⟨(hL1 σ h3).1, by rw [hg]; exact dv_mull π (hL1 σ h3).2⟩
        · refine List.Pairwise.cons (fun σ hσ => ?_) hL2
          exact cop_symm (irr_cop E (hL1 σ hσ).1 hπ (fun q => hex ⟨σ, hσ, q⟩))
        · intro σ hσ hσf
          rw [hg] at hσf
          rcases irr_dv E hσ hσf with h3 | h3
          · exact ⟨π, List.mem_cons_self, irr_sym E hσ hπ h3⟩
          · obtain ⟨ρ, h4, h5⟩ := hL3 σ hσ h3
            exact ⟨ρ, List.mem_cons_of_mem _ h4, h5⟩
def lp {S : Type} [Lean.Grind.CommRing S] : List S → S
  | [] => 1
  | a :: L => a * lp L
def ls {S : Type} [Lean.Grind.CommRing S] (N : S → Nat) : List S → Nat
  | [] => 0
  | a :: L => (N a - 1) + ls N L
theorem lp_mem {S : Type} [Lean.Grind.CommRing S] {a : S} : ∀ {L : List S}, a ∈ L → dv a (lp L)
  | b :: L, h => by
    rcases List.mem_cons.mp h with rfl | h1
    · exact dv_l _ _
    · exact dv_mull b (lp_mem h1)
theorem lp_cop {S : Type} [Lean.Grind.CommRing S] {a : S} : ∀ {L : List S}, (∀ b ∈ L, cop a b) → cop a (lp L)
  | [], _ => ⟨0, 1, by simp only [lp]; grind⟩
  | b :: L, h => cop_mul (h b List.mem_cons_self) (lp_cop (fun c hc => h c (List.mem_cons_of_mem _ hc)))
theorem lp_dv {S : Type} [Lean.Grind.CommRing S] {f : S} : ∀ {L : List S}, L.Pairwise cop → (∀ b ∈ L, dv b f) → dv (lp L) f
  | [], _, _ => ⟨f, by simp only [lp]; grind⟩
  | b :: L, h, h1 => by
    have h2 := List.pairwise_cons.mp h
    exact cop_dv2 (lp_cop h2.1) (h1 b List.mem_cons_self) (lp_dv h2.2 (fun c hc => h1 c (List.mem_cons_of_mem _ hc)))
theorem lp_N {S : Type} [Lean.Grind.CommRing S] {N : S → Nat} (E : EU S N) (h1 : (1 : S) ≠ 0) : ∀ {L : List S}, (∀ b ∈ L, b ≠ 0) → N (lp L) = 1 + ls N L ∧ lp L ≠ 0
  | [], _ => ⟨eu_one E h1, h1⟩
  | b :: L, h => by
    have hb := h b List.mem_cons_self
    obtain ⟨h2, h3⟩ := lp_N E h1 (fun c hc => h c (List.mem_cons_of_mem _ hc) : ∀ c ∈ L, c ≠ 0)
    have h4 := E.2.1 b (lp L) hb h3
    have h5 : N b ≠ 0 := fun q => hb ((E.1 b).mp q)
    simp only [lp, ls]
    refine ⟨by omega, fun q => ?_⟩
    have := (E.1 (b * lp L)).mpr q
    omega
/-- the degree of the common divisor with a square-free row -/
theorem gcd_N {S : Type} [Lean.Grind.CommRing S] {N : S → Nat} (E : EU S N) {f w g : S} {L : List S} (h1 : (1 : S) ≠ 0) (hL : FL N f L) (hw : sqf N w) (hw0 : w ≠ 0) (hgf : dv g f) (hgw : dv g w) {u v : S} (hg : g = u * f + v * w) (L1 : List S) (hL1 : L1.Pairwise cop) (hm : ∀ π, π ∈ L1 ↔ π ∈ L ∧ dv π w) : N g = 1 + ls N L1 := by
  have h2 : dv (lp L1) g := by
    rw [hg]
    exact dv_add (dv_mull u (lp_dv hL1 (fun b hb => (hL.1 b ((hm b).mp hb).1).2))) (dv_mull v (lp_dv hL1 (fun b hb => ((hm b).mp hb).2)))
  have h3 := lp_N E h1 (fun b hb => irr_ne E (hL.1 b ((hm b).mp hb).1).1 : ∀ b ∈ L1, b ≠ 0)
  obtain ⟨c, hc⟩ := h2
  have hg0 : g ≠ 0 := by
    intro q; apply hw0
    obtain ⟨e, he⟩ := hgw
    rw [he, q]; grind
  have hc0 : c ≠ 0 := by intro q; apply hg0; rw [hc, q]; grind
  have h4 := E.2.1 (lp L1) c h3.2 hc0
  rw [← hc] at h4
  have h5 : N c ≠ 0 := fun q => hc0 ((E.1 c).mp q)
  rcases Nat.lt_or_ge 1 (N c) with h6 | h6
  · exfalso
    obtain ⟨σ, hσ, hσc⟩ := irr_ex E (N c) c (Nat.le_refl _) h6
    have h7 : dv σ g := by rw [hc]; exact dv_mull _ hσc
    obtain ⟨π, hπ, hπσ⟩ := hL.2.2 σ hσ (dv_trans h7 hgf)
    have h8 : π ∈ L1 := (hm π).mpr ⟨hπ, dv_trans hπσ (dv_trans h7 hgw)⟩
    refine hw π (hL.1 π hπ).1 (dv_trans ?_ hgw)
    obtain ⟨a, ha⟩ := lp_mem h8
    obtain ⟨b, hb⟩ := dv_trans hπσ hσc
    exact ⟨a * b, by rw [hc, ha, hb]; grind⟩
  · omega
end MFac
