/-! joining factors by a prime to whole ones: what holds while sets are tried in order -/
section MRc
def tb (x : Nat) : Nat → Bool := fun i => x.testBit i
theorem mask_ex (b : Nat → Bool) : ∀ (m : Nat), ∃ B, B < 2 ^ m ∧ ∀ i, i < m → tb B i = b i
  | 0 => ⟨0, by simp, fun i hi => absurd hi (by omega)⟩
  | m + 1 => by
    obtain ⟨B, h1, h2⟩ := mask_ex b m
    have hs : 2 ^ m < 2 ^ (m + 1) := Nat.pow_lt_pow_right (by omega) (by omega)
    refine ⟨B ||| (if b m then 2 ^ m else 0), Nat.or_lt_two_pow (by omega) (by split <;> omega), fun i hi => ?_⟩
    unfold tb at h2 ⊢
    rw [Nat.testBit_or]
    rcases Nat.lt_or_ge i m with q | q
    · rw [h2 i q]
      by_cases z : b m = true
      · rw [if_pos z, Nat.testBit_two_pow]
        have : decide (m = i) = false := decide_eq_false (by omega)
        rw [this, Bool.or_false]
      · rw [if_neg z, Nat.zero_testBit, Bool.or_false]
    · have e : i = m := by omega
      subst e
      rw [Nat.testBit_lt_two_pow h1, Bool.false_or]
      by_cases z : b i = true
      · rw [if_pos z, Nat.testBit_two_pow, z, decide_eq_true rfl]
      · rw [if_neg z, Nat.zero_testBit]
        cases hb : b i
        · rfl
        · exact absurd hb z
theorem pc_congr {a b : Nat → Bool} : ∀ {m : Nat}, (∀ i, i < m → a i = b i) → pc a m = pc b m
  | 0, _ => rfl
  | m + 1, h => by simp only [pc]; rw [pc_congr (fun i hi => h i (by omega)), h m (by omega)]
theorem pc_le {a b : Nat → Bool} : ∀ {m : Nat}, (∀ i, i < m → a i = true → b i = true) → pc a m ≤ pc b m
  | 0, _ => Nat.le_refl _
  | m + 1, h => by
    simp only [pc]
    have h1 := pc_le (fun i hi => h i (by omega) : ∀ i, i < m → a i = true → b i = true)
    have h2 := h m (by omega)
    cases hb : b m <;> cases ha : a m <;> simp_all <;> omega
theorem pc_mem {a : Nat → Bool} : ∀ {m : Nat}, 1 ≤ pc a m → ∃ i, i < m ∧ a i = true
  | 0, h => absurd h (by simp [pc])
  | m + 1, h => by
    cases ha : a m
    · simp only [pc, ha] at h
      obtain ⟨i, h1, h2⟩ := pc_mem (a := a) (m := m) (by simpa using h)
      exact ⟨i, by omega, h2⟩
    · exact ⟨m, by omega, ha⟩
theorem fac_congr {S T R : Type} [Lean.Grind.CommRing S] [Lean.Grind.CommRing T] [Lean.Grind.CommRing R] {co : S → Nat → Int} (P : isPol co) {ct : T → Nat → R} (K : isPol ct) {p : Nat} (hp : isZp R p) {φ : Int → R} (hφ : isRed φ p) {q : Nat → T} {m : Nat} {rest : S} {a b : Nat → Bool} {g : S} (h : ∀ i, i < m → a i = b i) (hf : fac P K hp hφ q m rest a g) : fac P K hp hφ q m rest b g := by
  obtain ⟨h1, h2, h3, c, h4, h5⟩ := hf
  exact ⟨h1, h2, h3, c, h4, by rw [h5, pm_congr h (fun _ _ _ => rfl)]⟩
def rci {S T R : Type} [Lean.Grind.CommRing S] [Lean.Grind.CommRing T] [Lean.Grind.CommRing R] {co : S → Nat → Int} (P : isPol co) {ct : T → Nat → R} (K : isPol ct) {p : Nat} (hp : isZp R p) {φ : Int → R} (hφ : isRed φ p) (q : Nat → T) (m : Nat) (G rest : S) (L : Nat) (fo : Nat → S) (k many set : Nat) : Prop :=
  (∀ i, i < k → irz co (fo i)) ∧ pdn fo k * rest = G ∧ prim co rest ∧ 0 < co rest (nu co rest - 1) ∧ (∃ c, c ≠ 0 ∧ rd P K hp hφ rest = mo K c 0 * pm q (tb L) m) ∧ ∀ b g, (∀ i, i < m → tb b i = true → tb L i = true) → 1 ≤ pc (tb b) m → 2 * pc (tb b) m ≤ pc (tb L) m → (pc (tb b) m < many ∨ (pc (tb b) m = many ∧ b < set)) → b < 2 ^ m → ¬ fac P K hp hφ q m rest (tb b) g
theorem rci_skip {S T R : Type} [Lean.Grind.CommRing S] [Lean.Grind.CommRing T] [Lean.Grind.CommRing R] {co : S → Nat → Int} (P : isPol co) {ct : T → Nat → R} (K : isPol ct) {p : Nat} (hp : isZp R p) {φ : Int → R} (hφ : isRed φ p) {q : Nat → T} {m : Nat} {G rest : S} {L : Nat} {fo : Nat → S} {k many set : Nat} (h : rci P K hp hφ q m G rest L fo k many set) (hs : ¬ ((∀ i, i < m → tb set i = true → tb L i = true) ∧ pc (tb set) m = many ∧ 2 * many ≤ pc (tb L) m)) : rci P K hp hφ q m G rest L fo k many (set + 1) := by
  obtain ⟨h1, h2, h3, h4, h5, h6⟩ := h
  refine ⟨h1, h2, h3, h4, h5, fun b g b1 b2 b3 b4 b5 => ?_⟩
  rcases b4 with b4 | ⟨b4, b6⟩
  · exact h6 b g b1 b2 b3 (Or.inl b4) b5
  · rcases Nat.lt_or_ge b set with z | z
    · exact h6 b g b1 b2 b3 (Or.inr ⟨b4, z⟩) b5
    · have e : b = set := by omega
      subst e
      exact absurd ⟨b1, b4, by omega⟩ hs
theorem rci_no {S T R : Type} [Lean.Grind.CommRing S] [Lean.Grind.CommRing T] [Lean.Grind.CommRing R] {co : S → Nat → Int} (P : isPol co) {ct : T → Nat → R} (K : isPol ct) {p : Nat} (hp : isZp R p) {φ : Int → R} (hφ : isRed φ p) {q : Nat → T} {m : Nat} {G rest : S} {L : Nat} {fo : Nat → S} {k many set : Nat} (h : rci P K hp hφ q m G rest L fo k many set) (hs : ∀ g, ¬ fac P K hp hφ q m rest (tb set) g) : rci P K hp hφ q m G rest L fo k many (set + 1) := by
  obtain ⟨h1, h2, h3, h4, h5, h6⟩ := h
  refine ⟨h1, h2, h3, h4, h5, fun b g b1 b2 b3 b4 b5 => ?_⟩
  rcases b4 with b4 | ⟨b4, b6⟩
  · exact h6 b g b1 b2 b3 (Or.inl b4) b5
  · rcases Nat.lt_or_ge b set with z | z
    · exact h6 b g b1 b2 b3 (Or.inr ⟨b4, z⟩) b5
    · have e : b = set := by omega
      subst e
      exact hs g
theorem rci_next {S T R : Type} [Lean.Grind.CommRing S] [Lean.Grind.CommRing T] [Lean.Grind.CommRing R] {co : S → Nat → Int} (P : isPol co) {ct : T → Nat → R} (K : isPol ct) {p : Nat} (hp : isZp R p) {φ : Int → R} (hφ : isRed φ p) {q : Nat → T} {m : Nat} {G rest : S} {L : Nat} {fo : Nat → S} {k many set : Nat} (h : rci P K hp hφ q m G rest L fo k many set) (hs : 2 ^ m ≤ set) : rci P K hp hφ q m G rest L fo k (many + 1) 1 := by
  obtain ⟨h1, h2, h3, h4, h5, h6⟩ := h
  refine ⟨h1, h2, h3, h4, h5, fun b g b1 b2 b3 b4 b5 => h6 b g b1 b2 b3 ?_ b5⟩
  rcases b4 with b4 | ⟨b4, b6⟩
  · rcases Nat.lt_or_ge (pc (tb b) m) many with z | z
    · exact Or.inl z
    · exact Or.inr ⟨by omega, by omega⟩
  · have e : b = 0 := by omega
    subst e
    obtain ⟨i, _, hi⟩ := pc_mem b2
    unfold tb at hi
    rw [Nat.zero_testBit] at hi
    exact absurd hi (by decide)
theorem rci_lc {S T R : Type} [Lean.Grind.CommRing S] [Lean.Grind.CommRing T] [Lean.Grind.CommRing R] {co : S → Nat → Int} (P : isPol co) {ct : T → Nat → R} (K : isPol ct) {p : Nat} (hp : isZp R p) {φ : Int → R} (hφ : isRed φ p) {q : Nat → T} {m : Nat} {G rest : S} {L : Nat} {fo : Nat → S} {k many set : Nat} (h : rci P K hp hφ q m G rest L fo k many set) (hG : ¬ (p : Int) ∣ co G (nu co G - 1)) : ¬ (p : Int) ∣ co rest (nu co rest - 1) := by
  obtain ⟨h1, h2, h3, h4, h5, h6⟩ := h
  have hr := prim_ne P h3
  by_cases z : pdn fo k = 0
  · have hG0 : G = 0 := by rw [← h2, z]; grind
    exact absurd (by rw [hG0, p_zero P]; exact ⟨0, by omega⟩) hG
  · have := lc_dv P z hr
    rw [h2] at this
    intro hd
    exact hG (by rw [this]; exact Int.dvd_mul_of_dvd_right hd)
theorem mo_inv {R S : Type} [Lean.Grind.CommRing R] [Lean.Grind.CommRing S] {co : S → Nat → R} (P : isPol co) (hF : isF R) {c : R} (hc : c ≠ 0) : ∃ d, d ≠ 0 ∧ mo P d 0 * mo P c 0 = 1 := by
  obtain ⟨d, hd⟩ := hF.2 c hc
  refine ⟨d, fun q => hF.1 (by rw [← hd, q]; grind), ?_⟩
  rw [mo_mm P, show d * c = 1 by rw [← hd]; grind, mo_one P]
theorem rci_hit {S T R : Type} [Lean.Grind.CommRing S] [Lean.Grind.CommRing T] [Lean.Grind.CommRing R] {co : S → Nat → Int} (P : isPol co) {ct : T → Nat → R} (K : isPol ct) {p : Nat} (hp : isZp R p) {φ : Int → R} (hφ : isRed φ p) {q : Nat → T} {m : Nat} (hi : ∀ i, i < m → irr (nu ct) (q i)) (hc : ∀ i j, i < m → j < m → i ≠ j → cop (q i) (q j)) {G rest : S} {L : Nat} {fo fo' : Nat → S} {k many set : Nat} (h : rci P K hp hφ q m G rest L fo k many set) (hG : ¬ (p : Int) ∣ co G (nu co G - 1)) (hs1 : ∀ i, i < m → tb set i = true → tb L i = true) (hs2 : pc (tb set) m = many) (hs3 : 2 * many ≤ pc (tb L) m) (hm1 : 1 ≤ many) {g rest' : S} (hg : fac P K hp hφ q m rest (tb set) g) (hr : rest = g * rest') {L' : Nat} (hL : ∀ i, i < m → tb L' i = (tb L i && !tb set i)) (hfo : fo' k = g) (hfo2 : ∀ i, i < k → fo' i = fo i) : rci P K hp hφ q m G rest' L' fo' (k + 1) many (set + 1) := by
  have hlr := rci_lc P K hp hφ h hG
  obtain ⟨h1, h2, h3, h4, ⟨c, hc0, h5⟩, h6⟩ := h
  have hF := hp.2.2.1
  have hE := pol_EU K hF
  have hone : (1 : T) ≠ 0 := fun z => by
    have := p_one K (S := T) 0
    rw [z, p_zero K, if_pos rfl] at this
    exact hF.1 this.symm
  have hr0 := prim_ne P h3
  obtain ⟨g1, g2, g3, c1, hc1, g4⟩ := id hg
  have hg0 := prim_ne P g1
  have hr'0 : rest' ≠ 0 := fun z => hr0 (by rw [hr, z]; grind)
  have hpm0 : ∀ a, pm q a m ≠ 0 := fun a => pdn_ne hE hone (fun i hh => by
    split
    · exact irr_ne hE (hi i hh)
    · exact hone)
  have hNg : 2 ≤ nu co g := by
    obtain ⟨j, hj, hj2⟩ := pc_mem (a := tb set) (m := m) (by omega)
    have d1 := pm_mem (q := q) hj2 hj
    have n1 := eu_le hE d1 (hpm0 _)
    have n2 := (hi j hj).1
    have n3 : nu ct (rd P K hp hφ g) ≤ nu co g := nu_le K (fun i hh => by rw [rd_co P K hp hφ, nu_hi P g hh]; exact red_zero hφ)
    have n4 : nu ct (mo K c1 0 * pm q (tb set) m) + 1 = 1 + nu ct (pm q (tb set) m) := by
      rw [nu_mul K (isF_D hF) (fun z => by have := mo_N K (k := 0) hc1; rw [(nu_zero K).mpr z] at this; omega) (hpm0 _), mo_N K 0 hc1]
    rw [g4] at n3
    omega
  have higz : irz co g := fac_irr P K hp hφ hi hc hr0 hlr hg hNg (fun b x' b1 b2 b3 b4 => by
    obtain ⟨B, B1, B2⟩ := mask_ex b m
    have e := pc_congr B2
    exact h6 B x' (fun i hh z => hs1 i hh (b2 i hh (by rw [← B2 i hh]; exact z))) (by omega) (by omega) (Or.inl (by omega)) B1 (fac_congr P K hp hφ (fun i hh => (B2 i hh).symm) b1))
  have hLsub : ∀ i, i < m → tb L' i = true → tb L i = true := fun i hh z => by rw [hL i hh] at z; simp at z; exact z.1
  refine ⟨fun i hh => ?_, ?_, prim_dv P h3 ⟨g, by rw [hr]; grind⟩, ?_, ?_, fun b x b1 b2 b3 b4 b5 hf => ?_⟩
  · rcases Nat.lt_or_ge i k with z | z
    · rw [hfo2 i z]; exact h1 i z
    · rw [show i = k by omega, hfo]; exact higz
  · show pdn fo' k * fo' k * rest' = G
    rw [hfo, pdn_congr (fun i hh => hfo2 i hh), ← h2, hr]; grind
  · have := lc_dv P hg0 hr'0
    rw [← hr] at this
    rw [this] at h4
    exact Int.pos_of_mul_pos_right h4 (by omega)
  · obtain ⟨d1, hd1, hd2⟩ := mo_inv K hF hc1
    have hsp := pm_split q (tb L) (tb set) m hs1
    have hL' : pm q (fun i => tb L i && !tb set i) m = pm q (tb L') m := pm_congr (fun i hh => (hL i hh).symm) (fun _ _ _ => rfl)
    rw [hL'] at hsp
    have e1 : rd P K hp hφ rest = rd P K hp hφ g * rd P K hp hφ rest' := by rw [hr, rd_mul]
    rw [h5, g4, hsp] at e1
    have e2 : pm q (tb set) m * (mo K c 0 * pm q (tb L') m) = pm q (tb set) m * (mo K c1 0 * rd P K hp hφ rest') := by
      rw [show pm q (tb set) m * (mo K c 0 * pm q (tb L') m) = mo K c 0 * (pm q (tb set) m * pm q (tb L') m) by grind, e1]; grind
    have e3 := eu_cancel hE (hpm0 _) e2
    refine ⟨d1 * c, fun z => (isF_D hF _ _ z).elim hd1 hc0, ?_⟩
    have e4 : mo K d1 0 * (mo K c 0 * pm q (tb L') m) = mo K d1 0 * (mo K c1 0 * rd P K hp hφ rest') := by rw [e3]
    rw [show mo K d1 0 * (mo K c1 0 * rd P K hp hφ rest') = (mo K d1 0 * mo K c1 0) * rd P K hp hφ rest' by grind, hd2] at e4
    have e5 : mo K (d1 * c) 0 = mo K d1 0 * mo K c 0 := by rw [mo_mm K]
    rw [e5]
    grind
  · have hpcL : pc (tb L') m ≤ pc (tb L) m := pc_le hLsub
    have hf' : fac P K hp hφ q m rest (tb b) x := ⟨hf.1, hf.2.1, dv_trans hf.2.2.1 ⟨g, by rw [hr]; grind⟩, hf.2.2.2⟩
    refine h6 b x (fun i hh z => hLsub i hh (b1 i hh z)) b2 (by omega) ?_ b5 hf'
    rcases b4 with b4 | ⟨b4, b6⟩
    · exact Or.inl b4
    · refine Or.inr ⟨b4, ?_⟩
      rcases Nat.lt_or_ge b set with z | z
      · exact z
      · exfalso
        have e : b = set := by omega
        subst e
        obtain ⟨j, hj, hj2⟩ := pc_mem b2
        have := b1 j hj hj2
        rw [hL j hj, hj2] at this
        simp at this
theorem rci_end {S T R : Type} [Lean.Grind.CommRing S] [Lean.Grind.CommRing T] [Lean.Grind.CommRing R] {co : S → Nat → Int} (P : isPol co) {ct : T → Nat → R} (K : isPol ct) {p : Nat} (hp : isZp R p) {φ : Int → R} (hφ : isRed φ p) {q : Nat → T} {m : Nat} (hi : ∀ i, i < m → irr (nu ct) (q i)) (hc : ∀ i j, i < m → j < m → i ≠ j → cop (q i) (q j)) {G rest : S} {L : Nat} {fo : Nat → S} {k many set : Nat} (h : rci P K hp hφ q m G rest L fo k many set) (hG : ¬ (p : Int) ∣ co G (nu co G - 1)) (hs : pc (tb L) m < 2 * many) (hN : 2 ≤ nu co rest) : irz co rest := by
  have hlr := rci_lc P K hp hφ h hG
  obtain ⟨h1, h2, h3, h4, h5, h6⟩ := h
  refine fac_irr P K hp hφ hi hc (prim_ne P h3) hlr (a := tb L) ⟨h3, h4, dv_refl _, h5⟩ hN (fun b x' b1 b2 b3 b4 => ?_)
  obtain ⟨B, B1, B2⟩ := mask_ex b m
  have e := pc_congr B2
  exact h6 B x' (fun i hh z => b2 i hh (by rw [← B2 i hh]; exact z)) (by omega) (by omega) (Or.inl (by omega)) B1 (fac_congr P K hp hφ (fun i hh => (B2 i hh).symm) b1)
end MRc
