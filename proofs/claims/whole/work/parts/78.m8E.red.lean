/-! remainders of whole rows by a prime; that such rings are -/
section MRed
theorem pl_isPol (R : Type) [I : Lean.Grind.CommRing R] : @isPol R (PL R) I (plR R) (fun f i => f.1 i) :=
  ⟨fun _ _ _ => rfl, fun _ _ _ => rfl, fun _ _ h => pl_ext h, fun a => a.2, fun f n h => ⟨⟨f, n, h⟩, fun _ => rfl⟩, fun _ => rfl⟩
def isRed {R : Type} [Lean.Grind.CommRing R] (φ : Int → R) (p : Nat) : Prop := (∀ a b, φ (a + b) = φ a + φ b) ∧ (∀ a b, φ (a * b) = φ a * φ b) ∧ (∀ a, φ a = 0 ↔ (p : Int) ∣ a) ∧ φ 1 = 1
theorem qm_nt (p : Nat) (n : Nat) : @nt (QU (p : Int)) (quR (p : Int)) n = qm (p : Int) (n : Int) := by
  induction n with
  | zero => rfl
  | succ n ih =>
    show @nt (QU (p : Int)) (quR (p : Int)) (n + 1) = _
    have h : @nt (QU (p : Int)) (quR (p : Int)) (n + 1) = quAdd (@nt (QU (p : Int)) (quR (p : Int)) n) (qm (p : Int) 1) := rfl
    rw [h, ih]
    rfl
theorem qm_pw (p : Nat) (a : Int) (n : Nat) : @HPow.hPow (QU (p : Int)) Nat (QU (p : Int)) (quR (p : Int)).npow (qm (p : Int) a) n = qm (p : Int) (a ^ n) := by
  induction n with
  | zero => rw [Int.pow_zero]; rfl
  | succ n ih =>
    have h : @HPow.hPow (QU (p : Int)) Nat (QU (p : Int)) (quR (p : Int)).npow (qm (p : Int) a) (n + 1) = quMul (@HPow.hPow (QU (p : Int)) Nat (QU (p : Int)) (quR (p : Int)).npow (qm (p : Int) a) n) (qm (p : Int) a) := rfl
    rw [h, ih, Int.pow_succ]
    rfl
theorem qm_zero (p : Nat) (a : Int) : qm (p : Int) a = qm (p : Int) 0 ↔ (p : Int) ∣ a := by
  rw [qm_eq]
  constructor
  · rintro ⟨c, hc⟩; exact ⟨c, by omega⟩
  · rintro ⟨c, hc⟩; exact ⟨c, by omega⟩
theorem qm_inv {p : Nat} (h : prm p) {a : Int} (ha : ¬ (p : Int) ∣ a) : (p : Int) ∣ a * a ^ (p - 2) - 1 := by
  have h2 := h.1
  -- a^p = a for remainders of natural numbers
  have h1 : ∀ n : Nat, qm (p : Int) ((n : Int) ^ p) = qm (p : Int) (n : Int) := by
    intro n
    have hn0 : @nt (QU (p : Int)) (quR (p : Int)) p = qm (p : Int) 0 := by rw [qm_nt]; exact (qm_zero p _).mpr ⟨1, by omega⟩
    rw [← qm_pw, ← qm_nt]
    induction n with
    | zero =>
      have := @pw_z (QU (p : Int)) (quR (p : Int)) p (by omega)
      exact this
    | succ n ih =>
      have h3 := @frob (QU (p : Int)) (quR (p : Int)) p h hn0 (@nt (QU (p : Int)) (quR (p : Int)) n) (qm (p : Int) 1)
      have h4 := @pw_one (QU (p : Int)) (quR (p : Int)) p
      have h5 : @nt (QU (p : Int)) (quR (p : Int)) (n + 1) = quAdd (@nt (QU (p : Int)) (quR (p : Int)) n) (qm (p : Int) 1) := rfl
      rw [h5]
      refine h3.trans ?_
      have h6 : @HPow.hPow (QU (p : Int)) Nat (QU (p : Int)) (quR (p : Int)).npow (qm (p : Int) 1) p = qm (p : Int) 1 := h4
      exact congr (congrArg quAdd ih) h6
  have h7 : (p : Int) ∣ a ^ p - a := by
    have e1 : qm (p : Int) a = qm (p : Int) ((a.emod p).toNat : Int) := by
      rw [qm_eq]
      have m1 := Int.emod_nonneg a (show (p : Int) ≠ 0 by omega)
      refine ⟨a / p, ?_⟩
      have m2 := Int.mul_ediv_add_emod a p
      have m3 : (a.emod p) = a % p := rfl
      omega
    have e2 := h1 (a.emod p).toNat
    rw [← e1, ← qm_pw, ← e1, qm_pw] at e2
    obtain ⟨c, hc⟩ := qm_eq.mp e2
    exact ⟨c, hc⟩
  have e3 : a ^ p - a = a * (a * a ^ (p - 2) - 1) := by
    obtain ⟨q, rfl⟩ : ∃ q, p = q + 2 := ⟨p - 2, by omega⟩
    rw [Nat.add_sub_cancel, Int.pow_succ, Int.pow_succ]; grind
  rw [e3] at h7
  rcases prm_dvi h h7 with h8 | h8
  · exact absurd h8 ha
  · exact h8
theorem qu_isZp {p : Nat} (h : prm p) : @isZp (QU (p : Int)) (quR (p : Int)) p := by
  have h2 := h.1
  refine ⟨h, ?_, ⟨?_, ?_⟩, ?_, ?_⟩
  · rw [qm_nt]; exact (qm_zero p _).mpr ⟨1, by omega⟩
  · intro q
    obtain ⟨c, hc⟩ := (qm_zero p 1).mp q
    have hc : 1 = (p : Int) * c := hc
    have := Int.le_of_dvd (by omega) (show (p : Int) ∣ 1 from ⟨c, hc⟩)
    omega
  · intro x hx
    obtain ⟨a, rfl⟩ := qm_all x
    have h3 := qm_inv h (fun q => hx ((qm_zero p a).mpr q))
    refine ⟨qm (p : Int) (a ^ (p - 2)), ?_⟩
    show qm (p : Int) (a * a ^ (p - 2)) = qm (p : Int) 1
    rw [qm_eq]
    obtain ⟨c, hc⟩ := h3
    exact ⟨c, hc⟩
  · intro x
    obtain ⟨a, rfl⟩ := qm_all x
    have m1 := Int.emod_nonneg a (show (p : Int) ≠ 0 by omega)
    have m4 := Int.emod_lt_of_pos a (show (0 : Int) < p by omega)
    refine ⟨(a % p).toNat, by omega, ?_⟩
    rw [qm_nt, qm_eq]
    refine ⟨a / p, ?_⟩
    have m2 := Int.mul_ediv_add_emod a p
    omega
  · intro n h0 hn q
    rw [qm_nt] at q
    have h3 := (qm_zero p _).mp q
    have := Int.le_of_dvd (by omega) h3
    omega
theorem qu_isRed (p : Nat) : @isRed (QU (p : Int)) (quR (p : Int)) (qm (p : Int)) p := ⟨fun _ _ => rfl, fun _ _ => rfl, fun a => qm_zero p a, rfl⟩
/-- all that is wanted of the remainders by p, in one row -/
theorem zp_ex {p : Nat} (h : prm p) : ∃ (R T : Type) (I : Lean.Grind.CommRing R) (J : Lean.Grind.CommRing T) (ct : T → Nat → R) (φ : Int → R), @isPol R T I J ct ∧ @isZp R I p ∧ @isRed R I φ p :=
  ⟨QU (p : Int), @PL (QU (p : Int)) (quR (p : Int)), quR (p : Int), @plR (QU (p : Int)) (quR (p : Int)), _, qm (p : Int), @pl_isPol (QU (p : Int)) (quR (p : Int)), qu_isZp h, qu_isRed p⟩
theorem zx_ex : ∃ (S : Type) (J : Lean.Grind.CommRing S) (co : S → Nat → Int), @isPol Int S _ J co := ⟨PL Int, plR Int, _, pl_isPol Int⟩
theorem red_zero {R : Type} [Lean.Grind.CommRing R] {φ : Int → R} {p : Nat} (h : isRed φ p) : φ 0 = 0 := (h.2.2.1 0).mpr ⟨0, by omega⟩
theorem red_neg {R : Type} [Lean.Grind.CommRing R] {φ : Int → R} {p : Nat} (h : isRed φ p) (a : Int) : φ (-a) = - φ a := by
  have h1 := h.1 (-a) a
  rw [show -a + a = 0 by omega, red_zero h] at h1
  grind
theorem red_sub {R : Type} [Lean.Grind.CommRing R] {φ : Int → R} {p : Nat} (h : isRed φ p) (a b : Int) : φ (a - b) = φ a - φ b := by
  rw [show a - b = a + -b by omega, h.1, red_neg h]; grind
theorem red_eq {R : Type} [Lean.Grind.CommRing R] {φ : Int → R} {p : Nat} (h : isRed φ p) {a b : Int} : φ a = φ b ↔ (p : Int) ∣ a - b := by
  rw [← h.2.2.1, red_sub h]
  constructor <;> intro q <;> grind
theorem red_sm {R : Type} [Lean.Grind.CommRing R] {φ : Int → R} {p : Nat} (h : isRed φ p) (f : Nat → Int) : ∀ (n : Nat), φ (sm f n) = sm (fun i => φ (f i)) n
  | 0 => red_zero h
  | n + 1 => by rw [sm_succ, sm_succ, h.1, red_sm h f n]
theorem red_nt {R : Type} [Lean.Grind.CommRing R] {φ : Int → R} {p : Nat} (h : isRed φ p) : ∀ (n : Nat), φ (n : Int) = nt n
  | 0 => red_zero h
  | n + 1 => by rw [nt_succ, ← red_nt h n, Int.natCast_add, h.1]; exact congrArg _ h.2.2.2
noncomputable def rd {S T R : Type} [Lean.Grind.CommRing S] [Lean.Grind.CommRing T] [Lean.Grind.CommRing R] {co : S → Nat → Int} (P : isPol co) {ct : T → Nat → R} (K : isPol ct) {p : Nat} (hp : isZp R p) {φ : Int → R} (hφ : isRed φ p) (f : S) : T := Classical.choose (K.2.2.2.2.1 (fun i => φ (co f i)) (nu co f) (fun i hi => by rw [nu_hi P f hi]; exact red_zero hφ))
theorem rd_co {S T R : Type} [Lean.Grind.CommRing S] [Lean.Grind.CommRing T] [Lean.Grind.CommRing R] {co : S → Nat → Int} (P : isPol co) {ct : T → Nat → R} (K : isPol ct) {p : Nat} (hp : isZp R p) {φ : Int → R} (hφ : isRed φ p) (f : S) (i : Nat) : ct (rd P K hp hφ f) i = φ (co f i) := Classical.choose_spec (K.2.2.2.2.1 (fun i => φ (co f i)) (nu co f) (fun i hi => by rw [nu_hi P f hi]; exact red_zero hφ)) i
theorem rd_add {S T R : Type} [Lean.Grind.CommRing S] [Lean.Grind.CommRing T] [Lean.Grind.CommRing R] {co : S → Nat → Int} (P : isPol co) {ct : T → Nat → R} (K : isPol ct) {p : Nat} (hp : isZp R p) {φ : Int → R} (hφ : isRed φ p) (f g : S) : rd P K hp hφ (f + g) = rd P K hp hφ f + rd P K hp hφ g := p_ext K (fun i => by rw [p_add K, rd_co P K hp hφ, rd_co P K hp hφ, rd_co P K hp hφ, p_add P, hφ.1])
theorem rd_sub {S T R : Type} [Lean.Grind.CommRing S] [Lean.Grind.CommRing T] [Lean.Grind.CommRing R] {co : S → Nat → Int} (P : isPol co) {ct : T → Nat → R} (K : isPol ct) {p : Nat} (hp : isZp R p) {φ : Int → R} (hφ : isRed φ p) (f g : S) : rd P K hp hφ (f - g) = rd P K hp hφ f - rd P K hp hφ g := p_ext K (fun i => by rw [p_sub K, rd_co P K hp hφ, rd_co P K hp hφ, rd_co P K hp hφ, p_sub P, red_sub hφ])
theorem rd_mul {S T R : Type} [Lean.Grind.CommRing S] [Lean.Grind.CommRing T] [Lean.Grind.CommRing R] {co : S → Nat → Int} (P : isPol co) {ct : T → Nat → R} (K : isPol ct) {p : Nat} (hp : isZp R p) {φ : Int → R} (hφ : isRed φ p) (f g : S) : rd P K hp hφ (f * g) = rd P K hp hφ f * rd P K hp hφ g := p_ext K (fun i => by
  rw [p_mul K, rd_co P K hp hφ, p_mul P, red_sm hφ]
  exact sm_congr (fun j _ => by rw [hφ.2.1, rd_co P K hp hφ, rd_co P K hp hφ]))
theorem rd_mo {S T R : Type} [Lean.Grind.CommRing S] [Lean.Grind.CommRing T] [Lean.Grind.CommRing R] {co : S → Nat → Int} (P : isPol co) {ct : T → Nat → R} (K : isPol ct) {p : Nat} (hp : isZp R p) {φ : Int → R} (hφ : isRed φ p) (c : Int) (k : Nat) : rd P K hp hφ (mo P c k) = mo K (φ c) k := p_ext K (fun i => by
  rw [rd_co P K hp hφ, mo_co P, mo_co K]
  by_cases h : i = k
  · rw [if_pos h, if_pos h]
  · rw [if_neg h, if_neg h, red_zero hφ])
theorem rd_one {S T R : Type} [Lean.Grind.CommRing S] [Lean.Grind.CommRing T] [Lean.Grind.CommRing R] {co : S → Nat → Int} (P : isPol co) {ct : T → Nat → R} (K : isPol ct) {p : Nat} (hp : isZp R p) {φ : Int → R} (hφ : isRed φ p) : rd P K hp hφ 1 = 1 := by rw [← mo_one P, rd_mo, hφ.2.2.2, mo_one]
theorem rd_dr {S T R : Type} [Lean.Grind.CommRing S] [Lean.Grind.CommRing T] [Lean.Grind.CommRing R] {co : S → Nat → Int} (P : isPol co) {ct : T → Nat → R} (K : isPol ct) {p : Nat} (hp : isZp R p) {φ : Int → R} (hφ : isRed φ p) (f : S) : rd P K hp hφ (dr P f) = dr K (rd P K hp hφ f) := p_ext K (fun i => by
  rw [rd_co P K hp hφ, dr_co P, dr_co K, rd_co P K hp hφ, hφ.2.1]
  congr 1
  rw [← red_nt hφ]
  congr 1
  induction i + 1 with
  | zero => rfl
  | succ n ih => rw [nt_succ, ih]; rfl)
theorem rd_N {S T R : Type} [Lean.Grind.CommRing S] [Lean.Grind.CommRing T] [Lean.Grind.CommRing R] {co : S → Nat → Int} (P : isPol co) {ct : T → Nat → R} (K : isPol ct) {p : Nat} (hp : isZp R p) {φ : Int → R} (hφ : isRed φ p) {f : S} (h : ¬ (p : Int) ∣ co f (nu co f - 1)) : nu ct (rd P K hp hφ f) = nu co f :=
  nu_eq K (fun i hi => by rw [rd_co P K hp hφ, nu_hi P f hi]; exact red_zero hφ) (fun _ => by rw [rd_co P K hp hφ]; exact fun q => h ((hφ.2.2.1 _).mp q))
theorem rd_dv {S T R : Type} [Lean.Grind.CommRing S] [Lean.Grind.CommRing T] [Lean.Grind.CommRing R] {co : S → Nat → Int} (P : isPol co) {ct : T → Nat → R} (K : isPol ct) {p : Nat} (hp : isZp R p) {φ : Int → R} (hφ : isRed φ p) {f g : S} (h : dv f g) : dv (rd P K hp hφ f) (rd P K hp hφ g) := by
  obtain ⟨c, hc⟩ := h
  exact ⟨rd P K hp hφ c, by rw [hc, rd_mul]⟩
/-! irreducible rows of whole numbers -/
def irz {S : Type} [Lean.Grind.CommRing S] (co : S → Nat → Int) (f : S) : Prop := prim co f ∧ 2 ≤ nu co f ∧ 0 < co f (nu co f - 1) ∧ ∀ a b, f = a * b → nu co a = 1 ∨ nu co b = 1
theorem prim_c {S : Type} [Lean.Grind.CommRing S] {co : S → Nat → Int} (P : isPol co) {f : S} (h : prim co f) (h1 : nu co f = 1) : f = 1 ∨ f = -1 := by
  have h2 : f = mo P (co f 0) 0 := p_ext P (fun i => by
    rw [mo_co P]
    by_cases h : i = 0
    · rw [if_pos h, h]
    · rw [if_neg h, nu_hi P f (by omega)])
  have h3 : (co f 0).natAbs = 1 := by
    apply Classical.byContradiction
    intro hne
    have h4 : co f 0 ≠ 0 := by
      have := nu_top P f (by omega)
      rw [h1] at this
      exact this
    obtain ⟨q, hq, hqd⟩ := prm_ex (co f 0).natAbs (by omega)
    obtain ⟨i, hi⟩ := h q hq
    apply hi
    rcases Nat.eq_zero_or_pos i with z | z
    · rw [z]; exact Int.ofNat_dvd_left.mpr hqd
    · rw [nu_hi P f (by omega)]; exact ⟨0, by omega⟩
  rcases Int.natAbs_eq (co f 0) with h5 | h5
  · rw [h3] at h5
    left; rw [h2, h5]; exact mo_one P
  · rw [h3] at h5
    right; rw [h2, h5]
    have : mo P (0 - 1) 0 = 0 - mo P 1 0 := by rw [← mo_sub, mo_zero]
    rw [show (-((1 : Nat) : Int)) = 0 - 1 from rfl, this, mo_one]; grind
theorem irz_dv {S : Type} [Lean.Grind.CommRing S] {co : S → Nat → Int} (P : isPol co) {π : S} (h : irz co π) {a b : S} (h1 : dv π (a * b)) : dv π a ∨ dv π b := by
  obtain ⟨g, u, v, c, hg, hgπ, hga, hc, he⟩ := z_gcd P (a := π) (b := a) (prim_ne P h.1)
  obtain ⟨k, hk⟩ := hgπ
  rcases h.2.2.2 g k hk with h2 | h2
  · right
    have h3 : dv π (mo P c 0 * b) := by
      obtain ⟨d, hd⟩ := h1
      have h4 : g * g = 1 := by
        rcases prim_c P hg h2 with h5 | h5
        · rw [h5]; grind
        · rw [h5]; grind
      exact ⟨g * (u * b + v * d), by
        have : mo P c 0 * b = g * (mo P c 0 * g) * b := by grind
        rw [this, he]; grind⟩
    obtain ⟨d, hd⟩ := h3
    exact gauss_i P h.1 hc hd
  · left
    have h3 : k * k = 1 := by
      rcases prim_c P (prim_dv P h.1 ⟨g, by rw [hk]; grind⟩) h2 with h5 | h5
      · rw [h5]; grind
      · rw [h5]; grind
    obtain ⟨d, hd⟩ := hga
    exact ⟨k * d, by rw [hk, hd]; grind⟩
theorem irz_eq {S : Type} [Lean.Grind.CommRing S] {co : S → Nat → Int} (P : isPol co) {π ρ : S} (h : irz co π) (h1 : irz co ρ) (h2 : dv π ρ) : π = ρ := by
  obtain ⟨c, hc⟩ := h2
  rcases h1.2.2.2 π c hc with h3 | h3
  · have := h.2.1; omega
  · rcases prim_c P (prim_dv P h1.1 ⟨π, by rw [hc]; grind⟩) h3 with h4 | h4
    · rw [hc, h4]; grind
    · exfalso
      have h5 : ρ = -π := by rw [hc, h4]; grind
      have h6 : nu co ρ = nu co π := by
        refine nu_eq P (fun i hi => by rw [h5, p_neg P, nu_hi P π hi]; grind) (fun _ => ?_)
        rw [h5, p_neg P]
        have := h.2.2.1
        omega
      have h7 := h1.2.2.1
      rw [h6, h5, p_neg P] at h7
      have := h.2.2.1
      omega
theorem irz_lp {S : Type} [Lean.Grind.CommRing S] {co : S → Nat → Int} (P : isPol co) {π : S} (h : irz co π) : ∀ {L : List S}, dv π (lp L) → (∀ ρ ∈ L, irz co ρ) → π ∈ L
  | [], h1, _ => by
    exfalso
    obtain ⟨c, hc⟩ := h1
    have hN : nu co (1 : S) = 1 := nu_eq P (fun i hi => by rw [p_one P, if_neg (by omega)]) (fun _ => by rw [p_one P, if_pos (by omega)]; omega)
    have h0 : (1 : S) ≠ 0 := fun q => by have := (nu_zero P).mpr q; omega
    have hc0 : c ≠ 0 := by intro q; apply h0; have : (1 : S) = π * c := hc
                           rw [this, q]; grind
    have h2 := nu_mul P int_D (prim_ne P h.1) hc0
    rw [show π * c = 1 from hc.symm, hN] at h2
    have h3 : nu co c ≠ 0 := fun q => hc0 ((nu_zero P).mp q)
    have := h.2.1
    omega
  | ρ :: L, h1, h2 => by
    rcases irz_dv P h h1 with h3 | h3
    · rw [irz_eq P h (h2 ρ List.mem_cons_self) h3]; exact List.mem_cons_self
    · exact List.mem_cons_of_mem _ (irz_lp P h h3 (fun σ hσ => h2 σ (List.mem_cons_of_mem _ hσ)))
/-- two lists of irreducible rows with one product have the same members -/
theorem irz_lists {S : Type} [Lean.Grind.CommRing S] {co : S → Nat → Int} (P : isPol co) {L M : List S} (hL : ∀ ρ ∈ L, irz co ρ) (hM : ∀ ρ ∈ M, irz co ρ) (h : lp L = lp M) (π : S) : π ∈ L ↔ π ∈ M :=
  ⟨fun q => irz_lp P (hL π q) (by rw [← h]; exact lp_mem q) hM, fun q => irz_lp P (hM π q) (by rw [h]; exact lp_mem q) hL⟩
end MRed
