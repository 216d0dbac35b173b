/-! a constant that parts exists in every window of p of them -/
section MSepa
noncomputable def chi {R T : Type} [Lean.Grind.CommRing R] [Lean.Grind.CommRing T] {ct : T → Nat → R} (K : isPol ct) (p d : Nat) (π : T) (c : R) : R := (sg d * eq K π (-c)) ^ ((p - 1) / 2)
def sepAt {R T : Type} [Lean.Grind.CommRing R] [Lean.Grind.CommRing T] {ct : T → Nat → R} (K : isPol ct) (p d : Nat) (f : T) (c : R) : Prop := ∃ π ρ, irr (nu ct) π ∧ irr (nu ct) ρ ∧ ct π (nu ct π - 1) = 1 ∧ ct ρ (nu ct ρ - 1) = 1 ∧ dv π f ∧ dv ρ f ∧ nu ct π = d + 1 ∧ nu ct ρ = d + 1 ∧ chi K p d π c = 1 ∧ chi K p d ρ c ≠ 1
theorem nt_mod {R : Type} [Lean.Grind.CommRing R] {p : Nat} (h : (nt p : R) = 0) (a : Nat) : (nt (a % p) : R) = nt a := by
  have h1 := Nat.mod_add_div a p
  have h2 : (nt a : R) = nt (a % p) + nt p * nt (a / p) := by rw [← nt_mul, ← nt_add, h1]
  rw [h2, h]; grind
theorem nt_win {R : Type} [Lean.Grind.CommRing R] {p : Nat} (h : isZp R p) (c0 : Nat) (c : R) : ∃ j, j < p ∧ nt (c0 + j) = c := by
  obtain ⟨m, hm, e⟩ := h.2.2.2.1 c
  have hp := h.1.1
  have h1 := Nat.mod_lt c0 (show 0 < p by omega)
  refine ⟨(m + p - c0 % p) % p, Nat.mod_lt _ (by omega), ?_⟩
  rw [← nt_mod h.2.1, e]
  have : (c0 + (m + p - c0 % p) % p) % p = m := by
    rw [Nat.add_mod, Nat.mod_mod, ← Nat.add_mod]
    have h2 := Nat.mod_add_div c0 p
    rw [show c0 + (m + p - c0 % p) = m + p * (c0 / p + 1) by rw [Nat.mul_add]; omega, Nat.add_mul_mod_self_left, Nat.mod_eq_of_lt hm]
  rw [this]
theorem two_fac {R T : Type} [Lean.Grind.CommRing R] [Lean.Grind.CommRing T] {ct : T → Nat → R} (K : isPol ct) {p d : Nat} (h : isZp R p) {f : T} (hf : d + 1 < nu ct f) (hd : 1 ≤ d) (hs : sqf (nu ct) f) (hall : ∀ π, irr (nu ct) π → dv π f → nu ct π = d + 1) : ∃ π ρ, irr (nu ct) π ∧ irr (nu ct) ρ ∧ ct π (nu ct π - 1) = 1 ∧ ct ρ (nu ct ρ - 1) = 1 ∧ cop π ρ ∧ dv (π * ρ) f := by
  have hF := h.2.2.1
  have hE := pol_EU K hF
  have hf0 : f ≠ 0 := fun q => by rw [(nu_zero K).mpr q] at hf; omega
  obtain ⟨π0, i0, d0⟩ := irr_ex hE _ f (Nat.le_refl _) (by omega)
  obtain ⟨π, i1, m1, a1, b1⟩ := irr_mon K hF i0
  obtain ⟨w, hw⟩ := dv_trans b1 d0
  have hw0 : w ≠ 0 := fun q => hf0 (by rw [hw, q]; grind)
  have hn := nu_mul K (isF_D hF) (irr_ne hE i1) hw0
  rw [← hw] at hn
  have hπd := hall π i1 ⟨w, hw⟩
  obtain ⟨ρ0, j0, e0⟩ := irr_ex hE _ w (Nat.le_refl _) (by omega)
  obtain ⟨ρ, j1, m2, a2, b2⟩ := irr_mon K hF j0
  have e1 := dv_trans b2 e0
  have hnd : ¬ dv π ρ := fun q => hs π i1 (by
    obtain ⟨y, hy⟩ := dv_trans q e1
    exact ⟨y, by rw [hw, hy]; grind⟩)
  refine ⟨π, ρ, i1, j1, m1, m2, irr_cop hE i1 j1 hnd, ?_⟩
  obtain ⟨y, hy⟩ := e1
  exact ⟨y, by rw [hw, hy]; grind⟩
theorem sepa_ex {R T : Type} [Lean.Grind.CommRing R] [Lean.Grind.CommRing T] {ct : T → Nat → R} (K : isPol ct) {p d : Nat} (h : isZp R p) (hp : 100000000000 < p) (hodd : p % 2 = 1) {f : T} (hf : d + 1 < nu ct f) (hN : nu ct f ≤ 11) (hd : 1 ≤ d) (hs : sqf (nu ct) f) (hall : ∀ π, irr (nu ct) π → dv π f → nu ct π = d + 1) (c0 : Nat) : ∃ j, j < p ∧ sepAt K p d f (nt (c0 + j)) := by
  have hF := h.2.2.1
  have hE := pol_EU K hF
  have hf0 : f ≠ 0 := fun q => by rw [(nu_zero K).mpr q] at hf; omega
  obtain ⟨π, ρ, i1, j1, m1, m2, hc, hdv⟩ := two_fac K h hf hd hs hall
  have dπ : dv π f := dv_trans (dv_l π ρ) hdv
  have dρ : dv ρ f := dv_trans (dv_r ρ π) hdv
  have n1 := hall π i1 dπ
  have n2 := hall ρ j1 dρ
  obtain ⟨c, hc⟩ := sep_ex K h hp hodd i1 j1 m1 m2 hc (by omega) (by have := eu_le hE hdv hf0; omega)
  rw [n1, show d + 1 - 1 = d by omega] at hc
  obtain ⟨j, hj, e⟩ := nt_win h c0 c
  refine ⟨j, hj, ?_⟩
  rw [e]
  by_cases z : chi K p d π c = 1
  · exact ⟨π, ρ, i1, j1, m1, m2, dπ, dρ, n1, n2, z, fun q => hc ⟨fun _ => q, fun _ => z⟩⟩
  · refine ⟨ρ, π, j1, i1, m2, m1, dρ, dπ, n2, n1, ?_, z⟩
    exact Classical.byContradiction fun q => hc ⟨fun y => absurd y z, fun y => absurd y q⟩
theorem chi_dv {R T : Type} [Lean.Grind.CommRing R] [Lean.Grind.CommRing T] {ct : T → Nat → R} (K : isPol ct) {p : Nat} (h : isZp R p) {π : T} (hπ : irr (nu ct) π) (hm : ct π (nu ct π - 1) = 1) {c : R} {z : T} (hz : dv π (z - pdn (fun j => mo K 1 1 ^ (p ^ j) + mo K c 0) (nu ct π - 1))) : dv π (z ^ ((p - 1) / 2) - 1) ↔ chi K p (nu ct π - 1) π c = 1 := by
  have hF := h.2.2.1
  have h1 := cg_pw (cg_trans hz (norm_c K h hπ hm c)) ((p - 1) / 2)
  rw [mo_pw K, Nat.zero_mul] at h1
  have e : mo K ((sg (nu ct π - 1) * eq K π (-c)) ^ ((p - 1) / 2)) 0 = mo K (chi K p (nu ct π - 1) π c) 0 := rfl
  rw [e] at h1
  constructor
  · intro h2
    apply Classical.byContradiction
    intro h3
    have h4 := cg_trans (cg_symm h1) h2
    rw [← mo_one K, mo_sub K] at h4
    exact unit_no K hF hπ (fun q => h3 (by grind)) h4
  · intro h2
    rw [h2, mo_one K] at h1
    exact h1
end MSepa
