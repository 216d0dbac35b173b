/-! sums over a field of p -/
section MKlo
theorem sm_perm : ∀ (n : Nat) (f : Nat → Int) (τ : Nat → Nat), (∀ i, i < n → τ i < n) → (∀ i j, i < n → j < n → τ i = τ j → i = j) → sm (fun i => f (τ i)) n = sm f n
  | 0, _, _, _, _ => rfl
  | n + 1, f, τ, h1, h2 => by
    have hn := h1 n (by omega)
    rw [sm_succ, sm_skip f (show τ n ≤ n by omega)]
    have h3 := sm_perm n (fun j => f (if j < τ n then j else j + 1)) (fun i => if τ i < τ n then τ i else τ i - 1) (fun i hi => by
      have a1 := h1 i (by omega)
      have a2 : τ i ≠ τ n := fun q => by have := h2 i n (by omega) (by omega) q; omega
      split <;> omega) (fun i j hi hj he => by
      have a1 : τ i ≠ τ n := fun q => by have := h2 i n (by omega) (by omega) q; omega
      have a2 : τ j ≠ τ n := fun q => by have := h2 j n (by omega) (by omega) q; omega
      refine h2 i j (by omega) (by omega) ?_
      by_cases q1 : τ i < τ n
      · rw [if_pos q1] at he
        by_cases q2 : τ j < τ n
        · rw [if_pos q2] at he; exact he
        · rw [if_neg q2] at he; omega
      · rw [if_neg q1] at he
        by_cases q2 : τ j < τ n
        · rw [if_pos q2] at he; omega
        · rw [if_neg q2] at he; omega)
    have h4 : sm (fun i => f (τ i)) n = sm (fun i => (fun j => f (if j < τ n then j else j + 1)) (if τ i < τ n then τ i else τ i - 1)) n := by
      refine sm_congr (fun i hi => ?_)
      have a1 : τ i ≠ τ n := fun q => by have := h2 i n (by omega) (by omega) q; omega
      dsimp only
      by_cases q1 : τ i < τ n
      · rw [if_pos q1, if_pos q1]
      · rw [if_neg q1, if_neg (by omega), show τ i - 1 + 1 = τ i by omega]
    rw [h4, h3]; grind
noncomputable def dl {X : Type} (x y : X) : Int := @ite _ (x = y) (Classical.propDecidable _) 1 0
theorem dl_t {X : Type} {x y : X} (h : x = y) : dl x y = 1 := if_pos h
theorem dl_f {X : Type} {x y : X} (h : x ≠ y) : dl x y = 0 := if_neg h
theorem dl_01 {X : Type} (x y : X) : 0 ≤ dl x y ∧ dl x y ≤ 1 := by
  rcases Classical.em (x = y) with h | h
  · rw [dl_t h]; omega
  · rw [dl_f h]; omega
def sF {R : Type} [Lean.Grind.CommRing R] (p : Nat) (G : R → Int) : Int := sm (fun n => G (nt n)) p
theorem sF_congr {R : Type} [Lean.Grind.CommRing R] {p : Nat} {G H : R → Int} (h : ∀ x, G x = H x) : sF p G = sF p H := sm_congr (fun i _ => h _)
theorem sF_add {R : Type} [Lean.Grind.CommRing R] (p : Nat) (G H : R → Int) : sF p (fun x => G x + H x) = sF p G + sF p H := sm_add _ _ _
theorem sF_sub {R : Type} [Lean.Grind.CommRing R] (p : Nat) (G H : R → Int) : sF p (fun x => G x - H x) = sF p G - sF p H := sm_sub _ _ _
theorem sF_mul {R : Type} [Lean.Grind.CommRing R] (p : Nat) (c : Int) (G : R → Int) : sF p (fun x => c * G x) = c * sF p G := sm_mul c _ _
theorem sF_const {R : Type} [Lean.Grind.CommRing R] (p : Nat) (c : Int) : sF (R := R) p (fun _ => c) = p * c := sm_const c p
theorem sF_nn {R : Type} [Lean.Grind.CommRing R] {p : Nat} {G : R → Int} (h : ∀ x, 0 ≤ G x) : 0 ≤ sF p G := sm_nn (fun i _ => h _)
theorem sF_le {R : Type} [Lean.Grind.CommRing R] {p : Nat} {G H : R → Int} (h : ∀ x, G x ≤ H x) : sF p G ≤ sF p H := sm_le (fun i _ => h _)
theorem sF_swap {R Q : Type} [Lean.Grind.CommRing R] [Lean.Grind.CommRing Q] (p : Nat) (G : R → Q → Int) : sF p (fun x => sF p (fun y => G x y)) = sF p (fun y => sF p (fun x => G x y)) := sm_swap (fun i j => G (nt i) (nt j)) p p
/-- injective maps don't change a sum -/
theorem sF_bij {R : Type} [Lean.Grind.CommRing R] {p : Nat} (h : isZp R p) {σ : R → R} (hσ : ∀ x y, σ x = σ y → x = y) (G : R → Int) : sF p (fun x => G (σ x)) = sF p G := by
  have hex : ∀ n : Nat, ∃ m, m < p ∧ σ (nt n) = nt m := fun n => h.2.2.2.1 (σ (nt n))
  have h1 := sm_perm p (fun n => G (nt n)) (fun n => Classical.choose (hex n)) (fun i _ => (Classical.choose_spec (hex i)).1) (fun i j hi hj he => by
    have a1 := (Classical.choose_spec (hex i)).2
    have a2 := (Classical.choose_spec (hex j)).2
    have a3 : (nt i : R) = nt j := hσ _ _ (by rw [a1, a2]; exact congrArg nt he)
    rcases Nat.lt_trichotomy i j with q | q | q
    · exact absurd (by rw [a3]; grind) (nt_inj h q hj)
    · exact q
    · exact absurd (by rw [a3]; grind) (nt_inj h q hi))
  unfold sF
  rw [← h1]
  exact sm_congr (fun n _ => congrArg G (Classical.choose_spec (hex n)).2)
theorem sF_aff {R : Type} [Lean.Grind.CommRing R] {p : Nat} (h : isZp R p) {e : R} (he : e ≠ 0) (c : R) (G : R → Int) : sF p (fun x => G (e * x + c)) = sF p G :=
  sF_bij h (σ := fun x => e * x + c) (fun x y q => by
    rcases isF_D h.2.2.1 e (x - y) (by grind) with z | z
    · exact absurd z he
    · grind) G
theorem sF_dl {R : Type} [Lean.Grind.CommRing R] {p : Nat} (h : isZp R p) (a : R) (G : R → Int) : sF p (fun x => dl x a * G x) = G a := by
  obtain ⟨m, hm, rfl⟩ := h.2.2.2.1 a
  unfold sF
  rw [sm_one (k := m) hm (fun i hi hne => ?_)]
  · dsimp only; rw [dl_t rfl]; omega
  · dsimp only
    rw [dl_f (fun q => ?_)]
    · omega
    · rcases Nat.lt_or_gt_of_ne hne with z | z
      · exact nt_inj h z hm (by rw [q]; grind)
      · exact nt_inj h z hi (by rw [q]; grind)
theorem sF_dl1 {R : Type} [Lean.Grind.CommRing R] {p : Nat} (h : isZp R p) (a : R) : sF p (fun x => dl x a) = 1 := by
  have := sF_dl h a (fun _ => 1)
  rw [← this]
  exact sF_congr (fun x => by omega)
/-! Cauchy's inequality -/
def isL {X : Type} (Λ : (X → Int) → Int) : Prop := (∀ a b, Λ (fun x => a x + b x) = Λ a + Λ b) ∧ (∀ c a, Λ (fun x => c * a x) = c * Λ a) ∧ (∀ a, (∀ x, 0 ≤ a x) → 0 ≤ Λ a)
theorem cauchy {X : Type} {Λ : (X → Int) → Int} (h : isL Λ) (a b : X → Int) : Λ (fun x => a x * b x) * Λ (fun x => a x * b x) ≤ Λ (fun x => a x * a x) * Λ (fun x => b x * b x) := by
  have key : ∀ s t : Int, 0 ≤ s * s * Λ (fun x => a x * a x) - 2 * (s * t) * Λ (fun x => a x * b x) + t * t * Λ (fun x => b x * b x) := by
    intro s t
    have h1 := h.2.2 (fun x => (s * a x - t * b x) * (s * a x - t * b x)) (fun x => sq0 _)
    have h2 : Λ (fun x => (s * a x - t * b x) * (s * a x - t * b x)) = s * s * Λ (fun x => a x * a x) - 2 * (s * t) * Λ (fun x => a x * b x) + t * t * Λ (fun x => b x * b x) := by
      have e1 : (fun x => (s * a x - t * b x) * (s * a x - t * b x)) = fun x => (s * s * (a x * a x) + -(2 * (s * t)) * (a x * b x)) + t * t * (b x * b x) := by
        funext x; grind
      rw [e1, h.1, h.1, h.2.1, h.2.1, h.2.1]; grind
    omega
  generalize hA : Λ (fun x => a x * a x) = A at *
  generalize hB : Λ (fun x => b x * b x) = B at *
  generalize hC : Λ (fun x => a x * b x) = C at *
  have hB0 : 0 ≤ B := by rw [← hB]; exact h.2.2 _ (fun x => sq0 _)
  have hA0 : 0 ≤ A := by rw [← hA]; exact h.2.2 _ (fun x => sq0 _)
  rcases Int.lt_or_le 0 B with q | q
  · have k := key B C
    have e : B * B * A - 2 * (B * C) * C + C * C * B = B * (A * B - C * C) := by grind
    rw [e] at k
    have := Int.le_of_mul_le_mul_left (show B * 0 ≤ B * (A * B - C * C) by omega) q
    omega
  · have hB1 : B = 0 := by omega
    have hC0 : C = 0 := by
      have k1 := key 1 ((A + 1) * C)
      rw [hB1] at k1
      have e : 1 * 1 * A - 2 * (1 * ((A + 1) * C)) * C + (A + 1) * C * ((A + 1) * C) * 0 = A - 2 * ((A + 1) * (C * C)) := by grind
      rw [e] at k1
      apply Classical.byContradiction
      intro hne
      have h3 : 1 ≤ C * C := by
        have := sq0 C
        have : C * C ≠ 0 := fun z => hne (by rcases Int.mul_eq_zero.mp z with z | z <;> exact z)
        omega
      have h4 : (A + 1) * 1 ≤ (A + 1) * (C * C) := Int.mul_le_mul_of_nonneg_left h3 (by omega)
      omega
    rw [hC0, hB1]; omega
theorem isL_sF {R : Type} [Lean.Grind.CommRing R] (p : Nat) : isL (sF (R := R) p) := ⟨fun a b => sF_add p a b, fun c a => sF_mul p c a, fun a h => sF_nn h⟩
theorem isL_2 {R : Type} [Lean.Grind.CommRing R] (p : Nat) : isL (fun G : R × R → Int => sF p (fun u => sF p (fun v => G (u, v)))) :=
  ⟨fun a b => by rw [← sF_add]; exact sF_congr (fun u => sF_add p _ _), fun c a => by rw [← sF_mul]; exact sF_congr (fun u => sF_mul p c _), fun a h => sF_nn (fun u => sF_nn (fun v => h _))⟩
end MKlo
