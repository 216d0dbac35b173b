/-! binomials, Frobenius, Fermat -/
section MFrob
def nt {S : Type} [Lean.Grind.CommRing S] (n : Nat) : S := sm (fun _ => (1 : S)) n
theorem nt_zero {S : Type} [Lean.Grind.CommRing S] : (nt 0 : S) = 0 := rfl
theorem nt_succ {S : Type} [Lean.Grind.CommRing S] (n : Nat) : (nt (n + 1) : S) = nt n + 1 := rfl
theorem nt_one {S : Type} [Lean.Grind.CommRing S] : (nt 1 : S) = 1 := by rw [nt_succ, nt_zero]; grind
theorem nt_add {S : Type} [Lean.Grind.CommRing S] (a : Nat) : ∀ (b : Nat), (nt (a + b) : S) = nt a + nt b
  | 0 => by rw [nt_zero, Nat.add_zero]; grind
  | b + 1 => by rw [← Nat.add_assoc, nt_succ, nt_add a b, nt_succ]; grind
theorem nt_mul {S : Type} [Lean.Grind.CommRing S] (a : Nat) : ∀ (b : Nat), (nt (a * b) : S) = nt a * nt b
  | 0 => by rw [nt_zero, Nat.mul_zero, nt_zero]; grind
  | b + 1 => by rw [Nat.mul_succ, nt_add, nt_mul a b, nt_succ]; grind
theorem pw_succ {S : Type} [Lean.Grind.CommRing S] (a : S) (n : Nat) : a ^ (n + 1) = a ^ n * a := Lean.Grind.Semiring.pow_succ a n
theorem pw_zero {S : Type} [Lean.Grind.CommRing S] (a : S) : a ^ 0 = 1 := Lean.Grind.Semiring.pow_zero a
theorem pw_add {S : Type} [Lean.Grind.CommRing S] (a : S) (n m : Nat) : a ^ (n + m) = a ^ n * a ^ m := Lean.Grind.Semiring.pow_add a n m
theorem pw_mul {S : Type} [Lean.Grind.CommRing S] (a : S) (n : Nat) : ∀ (m : Nat), a ^ (n * m) = (a ^ n) ^ m
  | 0 => by rw [Nat.mul_zero, pw_zero, pw_zero]
  | m + 1 => by rw [Nat.mul_succ, pw_add, pw_mul a n m, pw_succ]
theorem pw_mm {S : Type} [Lean.Grind.CommRing S] (a b : S) : ∀ (m : Nat), (a * b) ^ m = a ^ m * b ^ m
  | 0 => by rw [pw_zero, pw_zero, pw_zero]; grind
  | m + 1 => by rw [pw_succ, pw_mm a b m, pw_succ, pw_succ]; grind
theorem pw_one {S : Type} [Lean.Grind.CommRing S] : ∀ (m : Nat), (1 : S) ^ m = 1
  | 0 => pw_zero _
  | m + 1 => by rw [pw_succ, pw_one m]; grind
theorem pw_z {S : Type} [Lean.Grind.CommRing S] {m : Nat} (h : m ≠ 0) : (0 : S) ^ m = 0 := by
  obtain ⟨k, rfl⟩ : ∃ k, m = k + 1 := ⟨m - 1, by omega⟩
  rw [pw_succ]; grind
def ch : Nat → Nat → Nat
  | _, 0 => 1
  | 0, _ + 1 => 0
  | n + 1, k + 1 => ch n k + ch n (k + 1)
theorem ch_z (n : Nat) : ch n 0 = 1 := by cases n <;> rfl
theorem ch_ss (n k : Nat) : ch (n + 1) (k + 1) = ch n k + ch n (k + 1) := rfl
theorem ch_big : ∀ (n k : Nat), n < k → ch n k = 0
  | 0, k + 1, _ => rfl
  | n + 1, k + 1, h => by rw [ch, ch_big n k (by omega), ch_big n (k + 1) (by omega)]
theorem ch_self : ∀ (n : Nat), ch n n = 1
  | 0 => rfl
  | n + 1 => by rw [ch, ch_self n, ch_big n (n + 1) (by omega)]
theorem ch_mul : ∀ (n k : Nat), (k + 1) * ch (n + 1) (k + 1) = (n + 1) * ch n k
  | 0, 0 => rfl
  | 0, k + 1 => by rw [ch_ss, ch_big 0 (k + 1) (by omega), ch_big 0 (k + 1 + 1) (by omega), Nat.add_zero, Nat.mul_zero, Nat.mul_zero]
  | n + 1, 0 => by
    have h := ch_mul n 0
    rw [ch_z] at h
    rw [ch_ss, ch_z]
    omega
  | n + 1, k + 1 => by
    have h1 := ch_mul n k
    have h2 := ch_mul n (k + 1)
    rw [ch_ss (n + 1) (k + 1)]
    have e : ch (n + 1) (k + 1) = ch n k + ch n (k + 1) := rfl
    generalize ch (n + 1) (k + 1 + 1) = x at *
    generalize ch (n + 1) (k + 1) = y at *
    generalize ch n k = z at *
    generalize ch n (k + 1) = u at *
    subst e
    grind
theorem binom {S : Type} [Lean.Grind.CommRing S] (a b : S) : ∀ (n : Nat), (a + b) ^ n = sm (fun k => nt (ch n k) * a ^ k * b ^ (n - k)) (n + 1)
  | 0 => by rw [pw_zero, sm, sm, ch_z, nt_one, pw_zero, Nat.sub_zero, pw_zero]; grind
  | n + 1 => by
    have h1 : sm (fun k => nt (ch n k) * a ^ k * b ^ (n + 1 - k)) (n + 1) = b ^ (n + 1) + sm (fun k => nt (ch n (k + 1)) * a ^ (k + 1) * b ^ (n - k)) (n + 1) := by
      have h2 := sm_front (fun k => (nt (ch n k) : S) * a ^ k * b ^ (n + 1 - k)) (n + 1)
      rw [sm] at h2
      simp only [ch_z, nt_one, ch_big n (n + 1) (by omega), nt_zero, pw_zero, Nat.sub_zero, Nat.add_sub_add_right] at h2
      grind
    rw [pw_succ, binom a b n, sm_front (fun k => (nt (ch (n + 1) k) : S) * a ^ k * b ^ (n + 1 - k)) (n + 1)]
    have h3 : sm (fun k => nt (ch n k) * a ^ k * b ^ (n - k)) (n + 1) * (a + b) = sm (fun k => nt (ch n k) * a ^ (k + 1) * b ^ (n - k)) (n + 1) + sm (fun k => nt (ch n k) * a ^ k * b ^ (n + 1 - k)) (n + 1) := by
      rw [← sm_add, ← sm_mulr]
      refine sm_congr (fun k hk => ?_)
      rw [show n + 1 - k = (n - k) + 1 by omega, pw_succ, pw_succ]; grind
    have h4 : sm (fun i => nt (ch (n + 1) (i + 1)) * a ^ (i + 1) * b ^ (n + 1 - (i + 1))) (n + 1) = sm (fun k => nt (ch n k) * a ^ (k + 1) * b ^ (n - k)) (n + 1) + sm (fun k => nt (ch n (k + 1)) * a ^ (k + 1) * b ^ (n - k)) (n + 1) := by
      rw [← sm_add]
      refine sm_congr (fun k hk => ?_)
      rw [ch_ss, nt_add, Nat.add_sub_add_right]; grind
    rw [h3, h1, h4, ch_z, nt_one, pw_zero, Nat.sub_zero]; grind
def prm (p : Nat) : Prop := 2 ≤ p ∧ ∀ d, d ∣ p → d = 1 ∨ d = p
theorem prm_dv {p a b : Nat} (h : prm p) (h1 : p ∣ a * b) : p ∣ a ∨ p ∣ b := by
  rcases h.2 (Nat.gcd p a) (Nat.gcd_dvd_left p a) with h2 | h2
  · exact Or.inr (Nat.Coprime.dvd_of_dvd_mul_left h2 h1)
  · exact Or.inl (by rw [← h2]; exact Nat.gcd_dvd_right p a)
theorem prm_ch {p k : Nat} (h : prm p) (h0 : 0 < k) (h1 : k < p) : p ∣ ch p k := by
  obtain ⟨j, rfl⟩ : ∃ j, k = j + 1 := ⟨k - 1, by omega⟩
  obtain ⟨q, rfl⟩ : ∃ q, p = q + 1 := ⟨p - 1, by omega⟩
  rcases prm_dv h (a := j + 1) (b := ch (q + 1) (j + 1)) (by rw [ch_mul]; exact Nat.dvd_mul_right _ _) with h2 | h2
  · exact absurd (Nat.le_of_dvd (by omega) h2) (by omega)
  · exact h2
theorem frob {S : Type} [Lean.Grind.CommRing S] {p : Nat} (h : prm p) (hp : (nt p : S) = 0) (a b : S) : (a + b) ^ p = a ^ p + b ^ p := by
  obtain ⟨q, rfl⟩ : ∃ q, p = q + 1 := ⟨p - 1, by have := h.1; omega⟩
  rw [binom, sm, sm_front, sm_zero (f := fun i => nt (ch (q + 1) (i + 1)) * a ^ (i + 1) * b ^ (q + 1 - (i + 1))) (fun i hi => ?_)]
  · rw [ch_z, ch_self, nt_one, pw_zero, Nat.sub_self, Nat.sub_zero, pw_zero]; grind
  · obtain ⟨c, hc⟩ := prm_ch h (k := i + 1) (by omega) (by omega)
    rw [hc, nt_mul, hp]; grind
theorem frob_sm {S : Type} [Lean.Grind.CommRing S] {p : Nat} (h : prm p) (hp : (nt p : S) = 0) (f : Nat → S) : ∀ (n : Nat), (sm f n) ^ p = sm (fun i => f i ^ p) n
  | 0 => by simp only [sm]; exact pw_z (by have := h.1; omega)
  | n + 1 => by simp only [sm]; rw [frob h hp, frob_sm h hp f n]
/-- the field of p -/
def isZp (R : Type) [Lean.Grind.CommRing R] (p : Nat) : Prop := prm p ∧ (nt p : R) = 0 ∧ isF R ∧ (∀ a : R, ∃ n, n < p ∧ a = nt n) ∧ ∀ n, 0 < n → n < p → (nt n : R) ≠ 0
theorem fermat {R : Type} [Lean.Grind.CommRing R] {p : Nat} (h : isZp R p) (a : R) : a ^ p = a := by
  obtain ⟨n, _, rfl⟩ := h.2.2.2.1 a
  induction n with
  | zero => rw [nt_zero]; exact pw_z (by have := h.1.1; omega)
  | succ n ih => rw [nt_succ, frob h.1 h.2.1, pw_one, ih (by omega)]
theorem fermat1 {R : Type} [Lean.Grind.CommRing R] {p : Nat} (h : isZp R p) {a : R} (ha : a ≠ 0) : a ^ (p - 1) = 1 := by
  have h1 := fermat h a
  obtain ⟨b, hb⟩ := h.2.2.1.2 a ha
  obtain ⟨q, hq⟩ : ∃ q, p = q + 1 := ⟨p - 1, by have := h.1.1; omega⟩
  rw [hq, pw_succ] at h1
  rw [hq, Nat.add_sub_cancel]
  grind
theorem fermat2 {R : Type} [Lean.Grind.CommRing R] {p : Nat} (h : isZp R p) {a : R} (ha : a ≠ 0) : a * a ^ (p - 2) = 1 := by
  have h1 := fermat1 h ha
  have h2 : p - 1 = (p - 2) + 1 := by have := h.1.1; omega
  rw [h2, pw_succ] at h1
  grind
end MFrob
