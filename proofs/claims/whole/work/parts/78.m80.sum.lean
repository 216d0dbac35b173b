/-! sums over i < n in a commutative ring -/
section MSum
def sm {R : Type} [Lean.Grind.CommRing R] (f : Nat → R) : Nat → R
  | 0 => 0
  | n + 1 => sm f n + f n
theorem sm_succ {R : Type} [Lean.Grind.CommRing R] (f : Nat → R) (n : Nat) : sm f (n + 1) = sm f n + f n := rfl
theorem sm_congr {R : Type} [Lean.Grind.CommRing R] {f g : Nat → R} : ∀ {n : Nat}, (∀ i, i < n → f i = g i) → sm f n = sm g n
  | 0, _ => rfl
  | n + 1, h => by
    simp only [sm]
    rw [sm_congr (n := n) (fun i hi => h i (by omega)), h n (by omega)]
theorem sm_zero {R : Type} [Lean.Grind.CommRing R] {f : Nat → R} : ∀ {n : Nat}, (∀ i, i < n → f i = 0) → sm f n = 0
  | 0, _ => rfl
  | n + 1, h => by
    simp only [sm]
    rw [sm_zero (n := n) (fun i hi => h i (by omega)), h n (by omega)]
    grind
theorem sm_add {R : Type} [Lean.Grind.CommRing R] (f g : Nat → R) : ∀ (n : Nat), sm (fun i => f i + g i) n = sm f n + sm g n
  | 0 => by simp only [sm]; grind
  | n + 1 => by simp only [sm]; rw [sm_add f g n]; grind
theorem sm_sub {R : Type} [Lean.Grind.CommRing R] (f g : Nat → R) : ∀ (n : Nat), sm (fun i => f i - g i) n = sm f n - sm g n
  | 0 => by simp only [sm]; grind
  | n + 1 => by simp only [sm]; rw [sm_sub f g n]; grind
theorem sm_mul {R : Type} [Lean.Grind.CommRing R] (c : R) (f : Nat → R) : ∀ (n : Nat), sm (fun i => c * f i) n = c * sm f n
  | 0 => by simp only [sm]; grind
  | n + 1 => by simp only [sm]; rw [sm_mul c f n]; grind
theorem sm_mulr {R : Type} [Lean.Grind.CommRing R] (c : R) (f : Nat → R) (n : Nat) : sm (fun i => f i * c) n = sm f n * c := by
  rw [sm_congr (g := fun i => c * f i) (fun i _ => by grind), sm_mul]; grind
theorem sm_swap {R : Type} [Lean.Grind.CommRing R] (f : Nat → Nat → R) : ∀ (n m : Nat), sm (fun i => sm (f i) m) n = sm (fun j => sm (fun i => f i j) n) m
  | 0, m => by simp only [sm]; exact (sm_zero (fun i _ => rfl)).symm
  | n + 1, m => by
    simp only [sm]
    rw [sm_swap f n m, ← sm_add]
theorem sm_front {R : Type} [Lean.Grind.CommRing R] (f : Nat → R) : ∀ (n : Nat), sm f (n + 1) = f 0 + sm (fun i => f (i + 1)) n
  | 0 => by simp only [sm]; grind
  | n + 1 => by
    rw [sm, sm_front f n, sm]; grind
theorem sm_split {R : Type} [Lean.Grind.CommRing R] (f : Nat → R) (n : Nat) : ∀ (m : Nat), sm f (n + m) = sm f n + sm (fun i => f (n + i)) m
  | 0 => by simp only [sm, Nat.add_zero]; grind
  | m + 1 => by
    rw [← Nat.add_assoc, sm, sm_split f n m, sm]; grind
theorem sm_more {R : Type} [Lean.Grind.CommRing R] {f : Nat → R} {n m : Nat} (hm : n ≤ m) (h : ∀ i, n ≤ i → i < m → f i = 0) : sm f m = sm f n := by
  obtain ⟨k, rfl⟩ := Nat.exists_eq_add_of_le hm
  rw [sm_split, sm_zero (f := fun i => f (n + i)) (fun i hi => h _ (by omega) (by omega))]; grind
theorem sm_one {R : Type} [Lean.Grind.CommRing R] {f : Nat → R} {n k : Nat} (hk : k < n) (h : ∀ i, i < n → i ≠ k → f i = 0) : sm f n = f k := by
  obtain ⟨m, rfl⟩ := Nat.exists_eq_add_of_le (show k + 1 ≤ n from hk)
  rw [sm_split, sm_zero (f := fun i => f (k + 1 + i)) (fun i hi => h _ (by omega) (by omega)), sm, sm_zero (n := k) (fun i hi => h i (by omega) (by omega))]; grind
theorem sm_rev {R : Type} [Lean.Grind.CommRing R] (f : Nat → R) : ∀ (n : Nat), sm (fun i => f (n - i)) (n + 1) = sm f (n + 1)
  | 0 => rfl
  | n + 1 => by
    rw [sm_front]
    have h : sm (fun i => f (n + 1 - (i + 1))) (n + 1) = sm f (n + 1) := by
      rw [← sm_rev f n]
      exact sm_congr (fun i _ => by rw [Nat.add_sub_add_right])
    rw [h, sm_succ f (n + 1), Nat.sub_zero]; grind
theorem sm_tri {R : Type} [Lean.Grind.CommRing R] (G : Nat → Nat → R) : ∀ (k : Nat), sm (fun i => sm (fun j => G j (i - j)) (i + 1)) (k + 1) = sm (fun j => sm (G j) (k - j + 1)) (k + 1)
  | 0 => rfl
  | k + 1 => by
    rw [sm, sm_tri G k]
    have h1 : sm (fun j => sm (G j) (k + 1 - j + 1)) (k + 1 + 1) = sm (fun j => sm (G j) (k - j + 1) + G j (k + 1 - j)) (k + 1) + G (k + 1) 0 := by
      rw [sm]
      congr 1
      · refine sm_congr (fun j hj => ?_)
        rw [show k + 1 - j + 1 = (k - j + 1) + 1 by omega, sm, show k - j + 1 = k + 1 - j by omega]
      · simp only [Nat.sub_self, sm]; grind
    rw [h1, sm_add, sm_succ (fun j => G j (k + 1 - j)), Nat.sub_self]; grind
theorem sm_le {f g : Nat → Int} : ∀ {n : Nat}, (∀ i, i < n → f i ≤ g i) → sm f n ≤ sm g n
  | 0, _ => Int.le_refl _
  | n + 1, h => by
    simp only [sm]
    have h1 := sm_le (n := n) (fun i hi => h i (by omega))
    have h2 := h n (by omega)
    omega
theorem sm_nn {f : Nat → Int} : ∀ {n : Nat}, (∀ i, i < n → 0 ≤ f i) → 0 ≤ sm f n
  | 0, _ => Int.le_refl _
  | n + 1, h => by
    simp only [sm]
    have h1 := sm_nn (n := n) (fun i hi => h i (by omega))
    have h2 := h n (by omega)
    omega
theorem sm_const (c : Int) : ∀ (n : Nat), sm (fun _ => c) n = n * c
  | 0 => by simp [sm]
  | n + 1 => by simp only [sm]; rw [sm_const c n]; push_cast; grind
end MSum
