/-! rings with division by remainder, measured by N (the degree and 1; 0 for 0) -/
section MEuclid
def dv {S : Type} [Lean.Grind.CommRing S] (a b : S) : Prop := ∃ c, b = a * c
def EU (S : Type) [Lean.Grind.CommRing S] (N : S → Nat) : Prop := (∀ a, N a = 0 ↔ a = 0) ∧ (∀ a b, a ≠ 0 → b ≠ 0 → N (a * b) + 1 = N a + N b) ∧ (∀ a b, b ≠ 0 → ∃ q r, a = q * b + r ∧ N r < N b)
def cop {S : Type} [Lean.Grind.CommRing S] (a b : S) : Prop := ∃ u v, u * a + v * b = 1
def irr {S : Type} [Lean.Grind.CommRing S] (N : S → Nat) (π : S) : Prop := 2 ≤ N π ∧ ∀ a b, π = a * b → N a = 1 ∨ N b = 1
theorem dv_refl {S : Type} [Lean.Grind.CommRing S] (a : S) : dv a a := ⟨1, by grind⟩
theorem dv_trans {S : Type} [Lean.Grind.CommRing S] {a b c : S} (h1 : dv a b) (h2 : dv b c) : dv a c := by
  obtain ⟨u, hu⟩ := h1; obtain ⟨v, hv⟩ := h2
  exact ⟨u * v, by grind⟩
theorem dv_mulr {S : Type} [Lean.Grind.CommRing S] {a b : S} (c : S) (h : dv a b) : dv a (b * c) := by
  obtain ⟨u, hu⟩ := h
  exact ⟨u * c, by grind⟩
theorem dv_mull {S : Type} [Lean.Grind.CommRing S] {a b : S} (c : S) (h : dv a b) : dv a (c * b) := by
  obtain ⟨u, hu⟩ := h
  exact ⟨u * c, by grind⟩
theorem dv_add {S : Type} [Lean.Grind.CommRing S] {a b c : S} (h1 : dv a b) (h2 : dv a c) : dv a (b + c) := by
  obtain ⟨u, hu⟩ := h1; obtain ⟨v, hv⟩ := h2
  exact ⟨u + v, by grind⟩
theorem dv_sub {S : Type} [Lean.Grind.CommRing S] {a b c : S} (h1 : dv a b) (h2 : dv a c) : dv a (b - c) := by
  obtain ⟨u, hu⟩ := h1; obtain ⟨v, hv⟩ := h2
  exact ⟨u - v, by grind⟩
theorem dv_zero {S : Type} [Lean.Grind.CommRing S] (a : S) : dv a 0 := ⟨0, by grind⟩
theorem dv_l {S : Type} [Lean.Grind.CommRing S] (a b : S) : dv a (a * b) := ⟨b, rfl⟩
theorem dv_r {S : Type} [Lean.Grind.CommRing S] (a b : S) : dv a (b * a) := ⟨b, by grind⟩
theorem eu_dom {S : Type} [Lean.Grind.CommRing S] {N : S → Nat} (E : EU S N) {a b : S} (h : a * b = 0) : a = 0 ∨ b = 0 := by
  by_cases ha : a = 0
  · exact Or.inl ha
  · by_cases hb : b = 0
    · exact Or.inr hb
    · have h1 := E.2.1 a b ha hb
      rw [(E.1 (a * b)).mpr h] at h1
      have h2 : N a ≠ 0 := fun q => ha ((E.1 a).mp q)
      have h3 : N b ≠ 0 := fun q => hb ((E.1 b).mp q)
      omega
theorem eu_cancel {S : Type} [Lean.Grind.CommRing S] {N : S → Nat} (E : EU S N) {a b c : S} (ha : a ≠ 0) (h : a * b = a * c) : b = c := by
  rcases eu_dom E (a := a) (b := b - c) (by grind) with h1 | h1
  · exact absurd h1 ha
  · grind
theorem eu_le {S : Type} [Lean.Grind.CommRing S] {N : S → Nat} (E : EU S N) {a b : S} (h : dv a b) (hb : b ≠ 0) : N a ≤ N b := by
  obtain ⟨c, hc⟩ := h
  have ha : a ≠ 0 := by intro q; apply hb; rw [hc, q]; grind
  have hcc : c ≠ 0 := by intro q; apply hb; rw [hc, q]; grind
  have h1 := E.2.1 a c ha hcc
  rw [← hc] at h1
  have h3 : N c ≠ 0 := fun q => hcc ((E.1 c).mp q)
  omega
theorem eu_unit {S : Type} [Lean.Grind.CommRing S] {N : S → Nat} (E : EU S N) {a : S} (h : N a = 1) : ∃ b, a * b = 1 := by
  have ha : a ≠ 0 := by intro q; rw [(E.1 a).mpr q] at h; omega
  obtain ⟨q, r, h1, h2⟩ := E.2.2 1 a ha
  have hr : r = 0 := (E.1 r).mp (by omega)
  exact ⟨q, by grind⟩
theorem eu_one {S : Type} [Lean.Grind.CommRing S] {N : S → Nat} (E : EU S N) {a : S} (ha : a ≠ 0) : N (1 : S) = 1 := by
  have h1 : (1 : S) ≠ 0 := by intro q; apply ha; have : a = a * 1 := by grind
                              rw [this, q]; grind
  have h := E.2.1 1 1 h1 h1
  rw [show (1 : S) * 1 = 1 by grind] at h
  omega
theorem eu_isu {S : Type} [Lean.Grind.CommRing S] {N : S → Nat} (E : EU S N) {a b : S} (h : a * b = 1) (h0 : (1 : S) ≠ 0) : N a = 1 := by
  have ha : a ≠ 0 := by intro q; apply h0; rw [← h, q]; grind
  have hb : b ≠ 0 := by intro q; apply h0; rw [← h, q]; grind
  have h1 := E.2.1 a b ha hb
  rw [h, eu_one E h0] at h1
  have h2 : N a ≠ 0 := fun q => ha ((E.1 a).mp q)
  have h3 : N b ≠ 0 := fun q => hb ((E.1 b).mp q)
  omega
theorem eu_bez {S : Type} [Lean.Grind.CommRing S] {N : S → Nat} (E : EU S N) : ∀ (n : Nat) (a b : S), N b ≤ n → ∃ g u v, g = u * a + v * b ∧ dv g a ∧ dv g b
  | n, a, b, hn => by
    by_cases hb : b = 0
    · exact ⟨a, 1, 0, by grind, dv_refl a, by rw [hb]; exact dv_zero a⟩
    · obtain ⟨q, r, h1, h2⟩ := E.2.2 a b hb
      match n, hn with
      | 0, hn => exact absurd ((E.1 b).mp (by omega)) hb
      | n + 1, hn =>
        obtain ⟨g, u, v, h3, h4, h5⟩ := eu_bez E n b r (by omega)
        refine ⟨g, v, u - v * q, by grind, ?_, h4⟩
        rw [h1]
        exact dv_add (dv_mull q h4) h5
theorem eu_gcd {S : Type} [Lean.Grind.CommRing S] {N : S → Nat} (E : EU S N) (a b : S) : ∃ g u v, g = u * a + v * b ∧ dv g a ∧ dv g b := eu_bez E (N b) a b (Nat.le_refl _)
theorem irr_ne {S : Type} [Lean.Grind.CommRing S] {N : S → Nat} (E : EU S N) {π : S} (h : irr N π) : π ≠ 0 := by
  intro q
  have := h.1
  rw [(E.1 π).mpr q] at this
  omega
theorem irr_or {S : Type} [Lean.Grind.CommRing S] {N : S → Nat} (E : EU S N) {π : S} (h : irr N π) (a : S) : dv π a ∨ cop π a := by
  obtain ⟨g, u, v, h1, ⟨c, hc⟩, h3⟩ := eu_gcd E π a
  rcases h.2 g c hc with h4 | h4
  · obtain ⟨b, hb⟩ := eu_unit E h4
    exact Or.inr ⟨b * u, b * v, by grind⟩
  · obtain ⟨b, hb⟩ := eu_unit E h4
    obtain ⟨d, hd⟩ := h3
    exact Or.inl ⟨b * d, by grind⟩
theorem cop_dv {S : Type} [Lean.Grind.CommRing S] {a b c : S} (h : cop a b) (h1 : dv a (b * c)) : dv a c := by
  obtain ⟨u, v, h2⟩ := h
  obtain ⟨d, hd⟩ := h1
  exact ⟨u * c + v * d, by grind⟩
theorem cop_symm {S : Type} [Lean.Grind.CommRing S] {a b : S} (h : cop a b) : cop b a := by
  obtain ⟨u, v, h2⟩ := h
  exact ⟨v, u, by grind⟩
theorem cop_mul {S : Type} [Lean.Grind.CommRing S] {a b c : S} (h : cop a b) (h1 : cop a c) : cop a (b * c) := by
  obtain ⟨u, v, h2⟩ := h
  obtain ⟨w, x, h3⟩ := h1
  exact ⟨u + v * b * w, v * x, by grind⟩
theorem cop_of_dv {S : Type} [Lean.Grind.CommRing S] {a b c : S} (h : cop a b) (h1 : dv c b) : cop a c := by
  obtain ⟨u, v, h2⟩ := h
  obtain ⟨d, hd⟩ := h1
  exact ⟨u, v * d, by grind⟩
theorem cop_dv2 {S : Type} [Lean.Grind.CommRing S] {a b c : S} (h : cop a b) (h1 : dv a c) (h2 : dv b c) : dv (a * b) c := by
  obtain ⟨u, v, h3⟩ := h
  obtain ⟨d, hd⟩ := h1
  obtain ⟨e, he⟩ := h2
  exact ⟨u * e + v * d, by grind⟩
theorem irr_dv {S : Type} [Lean.Grind.CommRing S] {N : S → Nat} (E : EU S N) {π : S} (h : irr N π) {a b : S} (h1 : dv π (a * b)) : dv π a ∨ dv π b := by
  rcases irr_or E h a with h2 | h2
  · exact Or.inl h2
  · exact Or.inr (cop_dv h2 h1)
theorem irr_ex {S : Type} [Lean.Grind.CommRing S] {N : S → Nat} (E : EU S N) : ∀ (n : Nat) (f : S), N f ≤ n → 2 ≤ N f → ∃ π, irr N π ∧ dv π f
  | 0, f, h, h1 => by omega
  | n + 1, f, h, h1 => by
    by_cases hi : irr N f
    · exact ⟨f, hi, dv_refl f⟩
    · have h2 : ∃ a b, f = a * b ∧ N a ≠ 1 ∧ N b ≠ 1 := by
        apply Classical.byContradiction
        intro h3
        apply hi
        refine ⟨h1, fun a b hab => ?_⟩
        rcases Classical.em (N a = 1) with h4 | h4
        · exact Or.inl h4
        · rcases Classical.em (N b = 1) with h5 | h5
          · exact Or.inr h5
          · exact absurd ⟨a, b, hab, h4, h5⟩ h3
      obtain ⟨a, b, hab, ha, hb⟩ := h2
      have hf : f ≠ 0 := by intro q; rw [(E.1 f).mpr q] at h1; omega
      have ha0 : a ≠ 0 := by intro q; apply hf; rw [hab, q]; grind
      have hb0 : b ≠ 0 := by intro q; apply hf; rw [hab, q]; grind
      have h3 := E.2.1 a b ha0 hb0
      rw [← hab] at h3
      have h4 : N a ≠ 0 := fun q => ha0 ((E.1 a).mp q)
      have h5 : N b ≠ 0 := fun q => hb0 ((E.1 b).mp q)
      obtain ⟨π, h6, h7⟩ := irr_ex E n a (by omega) (by omega)
      exact ⟨π, h6, by rw [hab]; exact dv_mulr b h7⟩
/-- two irreducible ones that divide each other differ by a unit -/
theorem irr_assoc {S : Type} [Lean.Grind.CommRing S] {N : S → Nat} (_E : EU S N) {π ρ : S} (h : irr N π) (h1 : irr N ρ) (h2 : dv π ρ) : ∃ c, N c = 1 ∧ ρ = π * c := by
  obtain ⟨c, hc⟩ := h2
  rcases h1.2 π c hc with h3 | h3
  · have := h.1; omega
  · exact ⟨c, h3, hc⟩
theorem irr_cop {S : Type} [Lean.Grind.CommRing S] {N : S → Nat} (E : EU S N) {π ρ : S} (h : irr N π) (h1 : irr N ρ) (h2 : ¬ dv π ρ) : cop π ρ := by
  rcases irr_or E h ρ with h3 | h3
  · exact absurd h3 h2
  · exact h3
end MEuclid
