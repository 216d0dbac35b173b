section MBq
theorem bq_fin {A B W X x y c d : Int} (hA : c * (x * x) ≤ A) (hB : d * (y * y) ≤ B) (hc : 0 < c) (hd : 0 < d) (hAB : A * B ≤ W * X) (hK : W ≤ 9604 * (c * d)) (hX : 0 ≤ X) : (x * y) * (x * y) ≤ 9604 * X := by
  have h1 := sqn c (by omega) x
  have h2 := sqn d (by omega) y
  have h3 : c * (x * x) * (d * (y * y)) ≤ A * B := Int.mul_le_mul hA hB h2 (by omega)
  have h4 : c * (x * x) * (d * (y * y)) = (c * d) * ((x * y) * (x * y)) := by grind
  have h5 : W * X ≤ 9604 * (c * d) * X := Int.mul_le_mul_of_nonneg_right hK hX
  have h6 : 9604 * (c * d) * X = (c * d) * (9604 * X) := by grind
  have h7 : (c * d) * ((x * y) * (x * y)) ≤ (c * d) * (9604 * X) := by omega
  exact Int.le_of_mul_le_mul_left h7 (Int.mul_pos hc hd)
theorem sq0 (x : Int) : 0 ≤ x * x := by have := sqn 1 (by omega) x; omega
theorem bq_1_1 (f g : Nat → Int) (hf : ∀ i, 1 < i → f i = 0) (hg : ∀ i, 1 < i → g i = 0) {X : Int} (hX : 0 ≤ X) (h : ∀ k, sm (fun i => f i * g (k - i)) (k + 1) * sm (fun i => f i * g (k - i)) (k + 1) ≤ X) : (∀ i, i ≤ 1 → (f i * g 1) * (f i * g 1) ≤ 9604 * X) ∧ (∀ j, j ≤ 1 → (f 1 * g j) * (f 1 * g j) ≤ 9604 * X) := by
  have b := bo_1_1 f g
  have s0 : sm (fun i => f i * g (0 - i)) (0 + 1) = f 0 * g 0 := by
    simp only [sm]
    grind
  have h0 := h 0
  rw [s0] at h0
  have s1 : sm (fun i => f i * g (1 - i)) (1 + 1) = f 0 * g 1 + f 1 * g 0 := by
    simp only [sm]
    grind
  have h1 := h 1
  rw [s1] at h1
  have s2 : sm (fun i => f i * g (2 - i)) (2 + 1) = f 1 * g 1 := by
    simp only [sm, hf 2 (by omega), hg 2 (by omega)]
    grind
  have h2 := h 2
  rw [s2] at h2
  have p0 := sq0 (f 0)
  have p1 := sq0 (f 1)
  have q0 := sq0 (g 0)
  have q1 := sq0 (g 1)
  have hW : (1 * (f 0 * f 0) + 1 * (f 1 * f 1)) * (1 * (g 0 * g 0) + 1 * (g 1 * g 1)) ≤ 5 * X := by omega
  clear b s0 h0 s1 h1 s2 h2
  refine ⟨fun i hi => ?_, fun j hj => ?_⟩
  · match i, hi with
    | 0, _ => exact bq_fin (c := 1) (d := 1) (by omega) (by omega) (by omega) (by omega) hW (by omega) hX
    | 1, _ => exact bq_fin (c := 1) (d := 1) (by omega) (by omega) (by omega) (by omega) hW (by omega) hX
    | i + 2, hi => omega
  · match j, hj with
    | 0, _ => exact bq_fin (c := 1) (d := 1) (by omega) (by omega) (by omega) (by omega) hW (by omega) hX
    | 1, _ => exact bq_fin (c := 1) (d := 1) (by omega) (by omega) (by omega) (by omega) hW (by omega) hX
    | j + 2, hj => omega
theorem bq_1_2 (f g : Nat → Int) (hf : ∀ i, 1 < i → f i = 0) (hg : ∀ i, 2 < i → g i = 0) {X : Int} (hX : 0 ≤ X) (h : ∀ k, sm (fun i => f i * g (k - i)) (k + 1) * sm (fun i => f i * g (k - i)) (k + 1) ≤ X) : (∀ i, i ≤ 1 → (f i * g 2) * (f i * g 2) ≤ 9604 * X) ∧ (∀ j, j ≤ 2 → (f 1 * g j) * (f 1 * g j) ≤ 9604 * X) := by
  have b := bo_1_2 f g
  have s0 : sm (fun i => f i * g (0 - i)) (0 + 1) = f 0 * g 0 := by
    simp only [sm]
    grind
  have h0 := h 0
  rw [s0] at h0
  have s1 : sm (fun i => f i * g (1 - i)) (1 + 1) = f 0 * g 1 + f 1 * g 0 := by
    simp only [sm]
    grind
  have h1 := h 1
  rw [s1] at h1
  have s2 : sm (fun i => f i * g (2 - i)) (2 + 1) = f 0 * g 2 + f 1 * g 1 := by
    simp only [sm, hf 2 (by omega)]
    grind
  have h2 := h 2
  rw [s2] at h2
  have s3 : sm (fun i => f i * g (3 - i)) (3 + 1) = f 1 * g 2 := by
    simp only [sm, hf 2 (by omega), hf 3 (by omega), hg 3 (by omega)]
    grind
  have h3 := h 3
  rw [s3] at h3
  have p0 := sq0 (f 0)
  have p1 := sq0 (f 1)
  have q0 := sq0 (g 0)
  have q1 := sq0 (g 1)
  have q2 := sq0 (g 2)
  have hW : (1 * (f 0 * f 0) + 1 * (f 1 * f 1)) * (2 * (g 0 * g 0) + 1 * (g 1 * g 1) + 2 * (g 2 * g 2)) ≤ 16 * X := by omega
  clear b s0 h0 s1 h1 s2 h2 s3 h3
  refine ⟨fun i hi => ?_, fun j hj => ?_⟩
  · match i, hi with
    | 0, _ => exact bq_fin (c := 1) (d := 2) (by omega) (by omega) (by omega) (by omega) hW (by omega) hX
    | 1, _ => exact bq_fin (c := 1) (d := 2) (by omega) (by omega) (by omega) (by omega) hW (by omega) hX
    | i + 2, hi => omega
  · match j, hj with
    | 0, _ => exact bq_fin (c := 1) (d := 2) (by omega) (by omega) (by omega) (by omega) hW (by omega) hX
    | 1, _ => exact bq_fin (c := 1) (d := 1) (by omega) (by omega) (by omega) (by omega) hW (by omega) hX
    | 2, _ => exact bq_fin (c := 1) (d := 2) (by omega) (by omega) (by omega) (by omega) hW (by omega) hX
    | j + 3, hj => omega
theorem bq_1_3 (f g : Nat → Int) (hf : ∀ i, 1 < i → f i = 0) (hg : ∀ i, 3 < i → g i = 0) {X : Int} (hX : 0 ≤ X) (h : ∀ k, sm (fun i => f i * g (k - i)) (k + 1) * sm (fun i => f i * g (k - i)) (k + 1) ≤ X) : (∀ i, i ≤ 1 → (f i * g 3) * (f i * g 3) ≤ 9604 * X) ∧ (∀ j, j ≤ 3 → (f 1 * g j) * (f 1 * g j) ≤ 9604 * X) := by
  have b := bo_1_3 f g
  have s0 : sm (fun i => f i * g (0 - i)) (0 + 1) = f 0 * g 0 := by
    simp only [sm]
    grind
  have h0 := h 0
  rw [s0] at h0
  have s1 : sm (fun i => f i * g (1 - i)) (1 + 1) = f 0 * g 1 + f 1 * g 0 := by
    simp only [sm]
    grind
  have h1 := h 1
  rw [s1] at h1
  have s2 : sm (fun i => f i * g (2 - i)) (2 + 1) = f 0 * g 2 + f 1 * g 1 := by
    simp only [sm, hf 2 (by omega)]
    grind
  have h2 := h 2
  rw [s2] at h2
  have s3 : sm (fun i => f i * g (3 - i)) (3 + 1) = f 0 * g 3 + f 1 * g 2 := by
    simp only [sm, hf 2 (by omega), hf 3 (by omega)]
    grind
  have h3 := h 3
  rw [s3] at h3
  have s4 : sm (fun i => f i * g (4 - i)) (4 + 1) = f 1 * g 3 := by
    simp only [sm, hf 2 (by omega), hf 3 (by omega), hf 4 (by omega), hg 4 (by omega)]
    grind
  have h4 := h 4
  rw [s4] at h4
  have p0 := sq0 (f 0)
  have p1 := sq0 (f 1)
  have q0 := sq0 (g 0)
  have q1 := sq0 (g 1)
  have q2 := sq0 (g 2)
  have q3 := sq0 (g 3)
  have hW : (1 * (f 0 * f 0) + 1 * (f 1 * f 1)) * (6 * (g 0 * g 0) + 2 * (g 1 * g 1) + 2 * (g 2 * g 2) + 6 * (g 3 * g 3)) ≤ 64 * X := by omega
  clear b s0 h0 s1 h1 s2 h2 s3 h3 s4 h4
  refine ⟨fun i hi => ?_, fun j hj => ?_⟩
  · match i, hi with
    | 0, _ => exact bq_fin (c := 1) (d := 6) (by omega) (by omega) (by omega) (by omega) hW (by omega) hX
    | 1, _ => exact bq_fin (c := 1) (d := 6) (by omega) (by omega) (by omega) (by omega) hW (by omega) hX
    | i + 2, hi => omega
  · match j, hj with
    | 0, _ => exact bq_fin (c := 1) (d := 6) (by omega) (by omega) (by omega) (by omega) hW (by omega) hX
    | 1, _ => exact bq_fin (c := 1) (d := 2) (by omega) (by omega) (by omega) (by omega) hW (by omega) hX
    | 2, _ => exact bq_fin (c := 1) (d := 2) (by omega) (by omega) (by omega) (by omega) hW (by omega) hX
    | 3, _ => exact bq_fin (c := 1) (d := 6) (by omega) (by omega) (by omega) (by omega) hW (by omega) hX
    | j + 4, hj => omega
theorem bq_1_4 (f g : Nat → Int) (hf : ∀ i, 1 < i → f i = 0) (hg : ∀ i, 4 < i → g i = 0) {X : Int} (hX : 0 ≤ X) (h : ∀ k, sm (fun i => f i * g (k - i)) (k + 1) * sm (fun i => f i * g (k - i)) (k + 1) ≤ X) : (∀ i, i ≤ 1 → (f i * g 4) * (f i * g 4) ≤ 9604 * X) ∧ (∀ j, j ≤ 4 → (f 1 * g j) * (f 1 * g j) ≤ 9604 * X) := by
  have b := bo_1_4 f g
  have s0 : sm (fun i => f i * g (0 - i)) (0 + 1) = f 0 * g 0 := by
    simp only [sm]
    grind
  have h0 := h 0
  rw [s0] at h0
  have s1 : sm (fun i => f i * g (1 - i)) (1 + 1) = f 0 * g 1 + f 1 * g 0 := by
    simp only [sm]
    grind
  have h1 := h 1
  rw [s1] at h1
  have s2 : sm (fun i => f i * g (2 - i)) (2 + 1) = f 0 * g 2 + f 1 * g 1 := by
    simp only [sm, hf 2 (by omega)]
    grind
  have h2 := h 2
  rw [s2] at h2
  have s3 : sm (fun i => f i * g (3 - i)) (3 + 1) = f 0 * g 3 + f 1 * g 2 := by
    simp only [sm, hf 2 (by omega), hf 3 (by omega)]
    grind
  have h3 := h 3
  rw [s3] at h3
  have s4 : sm (fun i => f i * g (4 - i)) (4 + 1) = f 0 * g 4 + f 1 * g 3 := by
    simp only [sm, hf 2 (by omega), hf 3 (by omega), hf 4 (by omega)]
    grind
  have h4 := h 4
  rw [s4] at h4
  have s5 : sm (fun i => f i * g (5 - i)) (5 + 1) = f 1 * g 4 := by
    simp only [sm, hf 2 (by omega), hf 3 (by omega), hf 4 (by omega), hf 5 (by omega), hg 5 (by omega)]
    grind
  have h5 := h 5
  rw [s5] at h5
  have p0 := sq0 (f 0)
  have p1 := sq0 (f 1)
  have q0 := sq0 (g 0)
  have q1 := sq0 (g 1)
  have q2 := sq0 (g 2)
  have q3 := sq0 (g 3)
  have q4 := sq0 (g 4)
  have hW : (1 * (f 0 * f 0) + 1 * (f 1 * f 1)) * (24 * (g 0 * g 0) + 6 * (g 1 * g 1) + 4 * (g 2 * g 2) + 6 * (g 3 * g 3) + 24 * (g 4 * g 4)) ≤ 312 * X := by omega
  clear b s0 h0 s1 h1 s2 h2 s3 h3 s4 h4 s5 h5
  refine ⟨fun i hi => ?_, fun j hj => ?_⟩
  · match i, hi with
    | 0, _ => exact bq_fin (c := 1) (d := 24) (by omega) (by omega) (by omega) (by omega) hW (by omega) hX
    | 1, _ => exact bq_fin (c := 1) (d := 24) (by omega) (by omega) (by omega) (by omega) hW (by omega) hX
    | i + 2, hi => omega
  · match j, hj with
    | 0, _ => exact bq_fin (c := 1) (d := 24) (by omega) (by omega) (by omega) (by omega) hW (by omega) hX
    | 1, _ => exact bq_fin (c := 1) (d := 6) (by omega) (by omega) (by omega) (by omega) hW (by omega) hX
    | 2, _ => exact bq_fin (c := 1) (d := 4) (by omega) (by omega) (by omega) (by omega) hW (by omega) hX
    | 3, _ => exact bq_fin (c := 1) (d := 6) (by omega) (by omega) (by omega) (by omega) hW (by omega) hX
    | 4, _ => exact bq_fin (c := 1) (d := 24) (by omega) (by omega) (by omega) (by omega) hW (by omega) hX
    | j + 5, hj => omega
theorem bq_1_5 (f g : Nat → Int) (hf : ∀ i, 1 < i → f i = 0) (hg : ∀ i, 5 < i → g i = 0) {X : Int} (hX : 0 ≤ X) (h : ∀ k, sm (fun i => f i * g (k - i)) (k + 1) * sm (fun i => f i * g (k - i)) (k + 1) ≤ X) : (∀ i, i ≤ 1 → (f i * g 5) * (f i * g 5) ≤ 9604 * X) ∧ (∀ j, j ≤ 5 → (f 1 * g j) * (f 1 * g j) ≤ 9604 * X) := by
  have b := bo_1_5 f g
  have s0 : sm (fun i => f i * g (0 - i)) (0 + 1) = f 0 * g 0 := by
    simp only [sm]
    grind
  have h0 := h 0
  rw [s0] at h0
  have s1 : sm (fun i => f i * g (1 - i)) (1 + 1) = f 0 * g 1 + f 1 * g 0 := by
    simp only [sm]
    grind
  have h1 := h 1
  rw [s1] at h1
  have s2 : sm (fun i => f i * g (2 - i)) (2 + 1) = f 0 * g 2 + f 1 * g 1 := by
    simp only [sm, hf 2 (by omega)]
    grind
  have h2 := h 2
  rw [s2] at h2
  have s3 : sm (fun i => f i * g (3 - i)) (3 + 1) = f 0 * g 3 + f 1 * g 2 := by
    simp only [sm, hf 2 (by omega), hf 3 (by omega)]
    grind
  have h3 := h 3
  rw [s3] at h3
  have s4 : sm (fun i => f i * g (4 - i)) (4 + 1) = f 0 * g 4 + f 1 * g 3 := by
    simp only [sm, hf 2 (by omega), hf 3 (by omega), hf 4 (by omega)]
    grind
  have h4 := h 4
  rw [s4] at h4
  have s5 : sm (fun i => f i * g (5 - i)) (5 + 1) = f 0 * g 5 + f 1 * g 4 := by
    simp only [sm, hf 2 (by omega), hf 3 (by omega), hf 4 (by omega), hf 5 (by omega)]
    grind
  have h5 := h 5
  rw [s5] at h5
  have s6 : sm (fun i => f i * g (6 - i)) (6 + 1) = f 1 * g 5 := by
    simp only [sm, hf 2 (by omega), hf 3 (by omega), hf 4 (by omega), hf 5 (by omega), hf 6 (by omega), hg 6 (by omega)]
    grind
  have h6 := h 6
  rw [s6] at h6
  have p0 := sq0 (f 0)
  have p1 := sq0 (f 1)
  have q0 := sq0 (g 0)
  have q1 := sq0 (g 1)
  have q2 := sq0 (g 2)
  have q3 := sq0 (g 3)
  have q4 := sq0 (g 4)
  have q5 := sq0 (g 5)
  have hW : (1 * (f 0 * f 0) + 1 * (f 1 * f 1)) * (120 * (g 0 * g 0) + 24 * (g 1 * g 1) + 12 * (g 2 * g 2) + 12 * (g 3 * g 3) + 24 * (g 4 * g 4) + 120 * (g 5 * g 5)) ≤ 1812 * X := by omega
  clear b s0 h0 s1 h1 s2 h2 s3 h3 s4 h4 s5 h5 s6 h6
  refine ⟨fun i hi => ?_, fun j hj => ?_⟩
  · match i, hi with
    | 0, _ => exact bq_fin (c := 1) (d := 120) (by omega) (by omega) (by omega) (by omega) hW (by omega) hX
    | 1, _ => exact bq_fin (c := 1) (d := 120) (by omega) (by omega) (by omega) (by omega) hW (by omega) hX
    | i + 2, hi => omega
  · match j, hj with
    | 0, _ => exact bq_fin (c := 1) (d := 120) (by omega) (by omega) (by omega) (by omega) hW (by omega) hX
    | 1, _ => exact bq_fin (c := 1) (d := 24) (by omega) (by omega) (by omega) (by omega) hW (by omega) hX
    | 2, _ => exact bq_fin (c := 1) (d := 12) (by omega) (by omega) (by omega) (by omega) hW (by omega) hX
    | 3, _ => exact bq_fin (c := 1) (d := 12) (by omega) (by omega) (by omega) (by omega) hW (by omega) hX
    | 4, _ => exact bq_fin (c := 1) (d := 24) (by omega) (by omega) (by omega) (by omega) hW (by omega) hX
    | 5, _ => exact bq_fin (c := 1) (d := 120) (by omega) (by omega) (by omega) (by omega) hW (by omega) hX
    | j + 6, hj => omega
theorem bq_1_6 (f g : Nat → Int) (hf : ∀ i, 1 < i → f i = 0) (hg : ∀ i, 6 < i → g i = 0) {X : Int} (hX : 0 ≤ X) (h : ∀ k, sm (fun i => f i * g (k - i)) (k + 1) * sm (fun i => f i * g (k - i)) (k + 1) ≤ X) : (∀ i, i ≤ 1 → (f i * g 6) * (f i * g 6) ≤ 9604 * X) ∧ (∀ j, j ≤ 6 → (f 1 * g j) * (f 1 * g j) ≤ 9604 * X) := by
  have b := bo_1_6 f g
  have s0 : sm (fun i => f i * g (0 - i)) (0 + 1) = f 0 * g 0 := by
    simp only [sm]
    grind
  have h0 := h 0
  rw [s0] at h0
  have s1 : sm (fun i => f i * g (1 - i)) (1 + 1) = f 0 * g 1 + f 1 * g 0 := by
    simp only [sm]
    grind
  have h1 := h 1
  rw [s1] at h1
  have s2 : sm (fun i => f i * g (2 - i)) (2 + 1) = f 0 * g 2 + f 1 * g 1 := by
    simp only [sm, hf 2 (by omega)]
    grind
  have h2 := h 2
  rw [s2] at h2
  have s3 : sm (fun i => f i * g (3 - i)) (3 + 1) = f 0 * g 3 + f 1 * g 2 := by
    simp only [sm, hf 2 (by omega), hf 3 (by omega)]
    grind
  have h3 := h 3
  rw [s3] at h3
  have s4 : sm (fun i => f i * g (4 - i)) (4 + 1) = f 0 * g 4 + f 1 * g 3 := by
    simp only [sm, hf 2 (by omega), hf 3 (by omega), hf 4 (by omega)]
    grind
  have h4 := h 4
  rw [s4] at h4
  have s5 : sm (fun i => f i * g (5 - i)) (5 + 1) = f 0 * g 5 + f 1 * g 4 := by
    simp only [sm, hf 2 (by omega), hf 3 (by omega), hf 4 (by omega), hf 5 (by omega)]
    grind
  have h5 := h 5
  rw [s5] at h5
  have s6 : sm (fun i => f i * g (6 - i)) (6 + 1) = f 0 * g 6 + f 1 * g 5 := by
    simp only [sm, hf 2 (by omega), hf 3 (by omega), hf 4 (by omega), hf 5 (by omega), hf 6 (by omega)]
    grind
  have h6 := h 6
  rw [s6] at h6
  have s7 : sm (fun i => f i * g (7 - i)) (7 + 1) = f 1 * g 6 := by
    simp only [sm, hf 2 (by omega), hf 3 (by omega), hf 4 (by omega), hf 5 (by omega), hf 6 (by omega), hf 7 (by omega), hg 7 (by omega)]
    grind
  have h7 := h 7
  rw [s7] at h7
  have p0 := sq0 (f 0)
  have p1 := sq0 (f 1)
  have q0 := sq0 (g 0)
  have q1 := sq0 (g 1)
  have q2 := sq0 (g 2)
  have q3 := sq0 (g 3)
  have q4 := sq0 (g 4)
  have q5 := sq0 (g 5)
  have q6 := sq0 (g 6)
  have hW : (1 * (f 0 * f 0) + 1 * (f 1 * f 1)) * (720 * (g 0 * g 0) + 120 * (g 1 * g 1) + 48 * (g 2 * g 2) + 36 * (g 3 * g 3) + 48 * (g 4 * g 4) + 120 * (g 5 * g 5) + 720 * (g 6 * g 6)) ≤ 12288 * X := by omega
  clear b s0 h0 s1 h1 s2 h2 s3 h3 s4 h4 s5 h5 s6 h6 s7 h7
  refine ⟨fun i hi => ?_, fun j hj => ?_⟩
  · match i, hi with
    | 0, _ => exact bq_fin (c := 1) (d := 720) (by omega) (by omega) (by omega) (by omega) hW (by omega) hX
    | 1, _ => exact bq_fin (c := 1) (d := 720) (by omega) (by omega) (by omega) (by omega) hW (by omega) hX
    | i + 2, hi => omega
  · match j, hj with
    | 0, _ => exact bq_fin (c := 1) (d := 720) (by omega) (by omega) (by omega) (by omega) hW (by omega) hX
    | 1, _ => exact bq_fin (c := 1) (d := 120) (by omega) (by omega) (by omega) (by omega) hW (by omega) hX
    | 2, _ => exact bq_fin (c := 1) (d := 48) (by omega) (by omega) (by omega) (by omega) hW (by omega) hX
    | 3, _ => exact bq_fin (c := 1) (d := 36) (by omega) (by omega) (by omega) (by omega) hW (by omega) hX
    | 4, _ => exact bq_fin (c := 1) (d := 48) (by omega) (by omega) (by omega) (by omega) hW (by omega) hX
    | 5, _ => exact bq_fin (c := 1) (d := 120) (by omega) (by omega) (by omega) (by omega) hW (by omega) hX
    | 6, _ => exact bq_fin (c := 1) (d := 720) (by omega) (by omega) (by omega) (by omega) hW (by omega) hX
    | j + 7, hj => omega
theorem bq_1_7 (f g : Nat → Int) (hf : ∀ i, 1 < i → f i = 0) (hg : ∀ i, 7 < i → g i = 0) {X : Int} (hX : 0 ≤ X) (h : ∀ k, sm (fun i => f i * g (k - i)) (k + 1) * sm (fun i => f i * g (k - i)) (k + 1) ≤ X) : (∀ i, i ≤ 1 → (f i * g 7) * (f i * g 7) ≤ 9604 * X) ∧ (∀ j, j ≤ 7 → (f 1 * g j) * (f 1 * g j) ≤ 9604 * X) := by
  have b := bo_1_7 f g
  have s0 : sm (fun i => f i * g (0 - i)) (0 + 1) = f 0 * g 0 := by
    simp only [sm]
    grind
  have h0 := h 0
  rw [s0] at h0
  have s1 : sm (fun i => f i * g (1 - i)) (1 + 1) = f 0 * g 1 + f 1 * g 0 := by
    simp only [sm]
    grind
  have h1 := h 1
  rw [s1] at h1
  have s2 : sm (fun i => f i * g (2 - i)) (2 + 1) = f 0 * g 2 + f 1 * g 1 := by
    simp only [sm, hf 2 (by omega)]
    grind
  have h2 := h 2
  rw [s2] at h2
  have s3 : sm (fun i => f i * g (3 - i)) (3 + 1) = f 0 * g 3 + f 1 * g 2 := by
    simp only [sm, hf 2 (by omega), hf 3 (by omega)]
    grind
  have h3 := h 3
  rw [s3] at h3
  have s4 : sm (fun i => f i * g (4 - i)) (4 + 1) = f 0 * g 4 + f 1 * g 3 := by
    simp only [sm, hf 2 (by omega), hf 3 (by omega), hf 4 (by omega)]
    grind
  have h4 := h 4
  rw [s4] at h4
  have s5 : sm (fun i => f i * g (5 - i)) (5 + 1) = f 0 * g 5 + f 1 * g 4 := by
    simp only [sm, hf 2 (by omega), hf 3 (by omega), hf 4 (by omega), hf 5 (by omega)]
    grind
  have h5 := h 5
  rw [s5] at h5
  have s6 : sm (fun i => f i * g (6 - i)) (6 + 1) = f 0 * g 6 + f 1 * g 5 := by
    simp only [sm, hf 2 (by omega), hf 3 (by omega), hf 4 (by omega), hf 5 (by omega), hf 6 (by omega)]
    grind
  have h6 := h 6
  rw [s6] at h6
  have s7 : sm (fun i => f i * g (7 - i)) (7 + 1) = f 0 * g 7 + f 1 * g 6 := by
    simp only [sm, hf 2 (by omega), hf 3 (by omega), hf 4 (by omega), hf 5 (by omega), hf 6 (by omega), hf 7 (by omega)]
    grind
  have h7 := h 7
  rw [s7] at h7
  have s8 : sm (fun i => f i * g (8 - i)) (8 + 1) = f 1 * g 7 := by
    simp only [sm, hf 2 (by omega), hf 3 (by omega), hf 4 (by omega), hf 5 (by omega), hf 6 (by omega), hf 7 (by omega), hf 8 (by omega), hg 8 (by omega)]
    grind
  have h8 := h 8
  rw [s8] at h8
  have p0 := sq0 (f 0)
  have p1 := sq0 (f 1)
  have q0 := sq0 (g 0)
  have q1 := sq0 (g 1)
  have q2 := sq0 (g 2)
  have q3 := sq0 (g 3)
  have q4 := sq0 (g 4)
  have q5 := sq0 (g 5)
  have q6 := sq0 (g 6)
  have q7 := sq0 (g 7)
  have hW : (1 * (f 0 * f 0) + 1 * (f 1 * f 1)) * (5040 * (g 0 * g 0) + 720 * (g 1 * g 1) + 240 * (g 2 * g 2) + 144 * (g 3 * g 3) + 144 * (g 4 * g 4) + 240 * (g 5 * g 5) + 720 * (g 6 * g 6) + 5040 * (g 7 * g 7)) ≤ 95616 * X := by omega
  clear b s0 h0 s1 h1 s2 h2 s3 h3 s4 h4 s5 h5 s6 h6 s7 h7 s8 h8
  refine ⟨fun i hi => ?_, fun j hj => ?_⟩
  · match i, hi with
    | 0, _ => exact bq_fin (c := 1) (d := 5040) (by omega) (by omega) (by omega) (by omega) hW (by omega) hX
    | 1, _ => exact bq_fin (c := 1) (d := 5040) (by omega) (by omega) (by omega) (by omega) hW (by omega) hX
    | i + 2, hi => omega
  · match j, hj with
    | 0, _ => exact bq_fin (c := 1) (d := 5040) (by omega) (by omega) (by omega) (by omega) hW (by omega) hX
    | 1, _ => exact bq_fin (c := 1) (d := 720) (by omega) (by omega) (by omega) (by omega) hW (by omega) hX
    | 2, _ => exact bq_fin (c := 1) (d := 240) (by omega) (by omega) (by omega) (by omega) hW (by omega) hX
    | 3, _ => exact bq_fin (c := 1) (d := 144) (by omega) (by omega) (by omega) (by omega) hW (by omega) hX
    | 4, _ => exact bq_fin (c := 1) (d := 144) (by omega) (by omega) (by omega) (by omega) hW (by omega) hX
    | 5, _ => exact bq_fin (c := 1) (d := 240) (by omega) (by omega) (by omega) (by omega) hW (by omega) hX
    | 6, _ => exact bq_fin (c := 1) (d := 720) (by omega) (by omega) (by omega) (by omega) hW (by omega) hX
    | 7, _ => exact bq_fin (c := 1) (d := 5040) (by omega) (by omega) (by omega) (by omega) hW (by omega) hX
    | j + 8, hj => omega
theorem bq_1_8 (f g : Nat → Int) (hf : ∀ i, 1 < i → f i = 0) (hg : ∀ i, 8 < i → g i = 0) {X : Int} (hX : 0 ≤ X) (h : ∀ k, sm (fun i => f i * g (k - i)) (k + 1) * sm (fun i => f i * g (k - i)) (k + 1) ≤ X) : (∀ i, i ≤ 1 → (f i * g 8) * (f i * g 8) ≤ 9604 * X) ∧ (∀ j, j ≤ 8 → (f 1 * g j) * (f 1 * g j) ≤ 9604 * X) := by
  have b := bo_1_8 f g
  have s0 : sm (fun i => f i * g (0 - i)) (0 + 1) = f 0 * g 0 := by
    simp only [sm]
    grind
  have h0 := h 0
  rw [s0] at h0
  have s1 : sm (fun i => f i * g (1 - i)) (1 + 1) = f 0 * g 1 + f 1 * g 0 := by
    simp only [sm]
    grind
  have h1 := h 1
  rw [s1] at h1
  have s2 : sm (fun i => f i * g (2 - i)) (2 + 1) = f 0 * g 2 + f 1 * g 1 := by
    simp only [sm, hf 2 (by omega)]
    grind
  have h2 := h 2
  rw [s2] at h2
  have s3 : sm (fun i => f i * g (3 - i)) (3 + 1) = f 0 * g 3 + f 1 * g 2 := by
    simp only [sm, hf 2 (by omega), hf 3 (by omega)]
    grind
  have h3 := h 3
  rw [s3] at h3
  have s4 : sm (fun i => f i * g (4 - i)) (4 + 1) = f 0 * g 4 + f 1 * g 3 := by
    simp only [sm, hf 2 (by omega), hf 3 (by omega), hf 4 (by omega)]
    grind
  have h4 := h 4
  rw [s4] at h4
  have s5 : sm (fun i => f i * g (5 - i)) (5 + 1) = f 0 * g 5 + f 1 * g 4 := by
    simp only [sm, hf 2 (by omega), hf 3 (by omega), hf 4 (by omega), hf 5 (by omega)]
    grind
  have h5 := h 5
  rw [s5] at h5
  have s6 : sm (fun i => f i * g (6 - i)) (6 + 1) = f 0 * g 6 + f 1 * g 5 := by
    simp only [sm, hf 2 (by omega), hf 3 (by omega), hf 4 (by omega), hf 5 (by omega), hf 6 (by omega)]
    grind
  have h6 := h 6
  rw [s6] at h6
  have s7 : sm (fun i => f i * g (7 - i)) (7 + 1) = f 0 * g 7 + f 1 * g 6 := by
    simp only [sm, hf 2 (by omega), hf 3 (by omega), hf 4 (by omega), hf 5 (by omega), hf 6 (by omega), hf 7 (by omega)]
    grind
  have h7 := h 7
  rw [s7] at h7
  have s8 : sm (fun i => f i * g (8 - i)) (8 + 1) = f 0 * g 8 + f 1 * g 7 := by
    simp only [sm, hf 2 (by omega), hf 3 (by omega), hf 4 (by omega), hf 5 (by omega), hf 6 (by omega), hf 7 (by omega), hf 8 (by omega)]
    grind
  have h8 := h 8
  rw [s8] at h8
  have s9 : sm (fun i => f i * g (9 - i)) (9 + 1) = f 1 * g 8 := by
    simp only [sm, hf 2 (by omega), hf 3 (by omega), hf 4 (by omega), hf 5 (by omega), hf 6 (by omega), hf 7 (by omega), hf 8 (by omega), hf 9 (by omega), hg 9 (by omega)]
    grind
  have h9 := h 9
  rw [s9] at h9
  have p0 := sq0 (f 0)
  have p1 := sq0 (f 1)
  have q0 := sq0 (g 0)
  have q1 := sq0 (g 1)
  have q2 := sq0 (g 2)
  have q3 := sq0 (g 3)
  have q4 := sq0 (g 4)
  have q5 := sq0 (g 5)
  have q6 := sq0 (g 6)
  have q7 := sq0 (g 7)
  have q8 := sq0 (g 8)
  have hW : (1 * (f 0 * f 0) + 1 * (f 1 * f 1)) * (40320 * (g 0 * g 0) + 5040 * (g 1 * g 1) + 1440 * (g 2 * g 2) + 720 * (g 3 * g 3) + 576 * (g 4 * g 4) + 720 * (g 5 * g 5) + 1440 * (g 6 * g 6) + 5040 * (g 7 * g 7) + 40320 * (g 8 * g 8)) ≤ 840960 * X := by omega
  clear b s0 h0 s1 h1 s2 h2 s3 h3 s4 h4 s5 h5 s6 h6 s7 h7 s8 h8 s9 h9
  refine ⟨fun i hi => ?_, fun j hj => ?_⟩
  · match i, hi with
    | 0, _ => exact bq_fin (c := 1) (d := 40320) (by omega) (by omega) (by omega) (by omega) hW (by omega) hX
    | 1, _ => exact bq_fin (c := 1) (d := 40320) (by omega) (by omega) (by omega) (by omega) hW (by omega) hX
    | i + 2, hi => omega
  · match j, hj with
    | 0, _ => exact bq_fin (c := 1) (d := 40320) (by omega) (by omega) (by omega) (by omega) hW (by omega) hX
    | 1, _ => exact bq_fin (c := 1) (d := 5040) (by omega) (by omega) (by omega) (by omega) hW (by omega) hX
    | 2, _ => exact bq_fin (c := 1) (d := 1440) (by omega) (by omega) (by omega) (by omega) hW (by omega) hX
    | 3, _ => exact bq_fin (c := 1) (d := 720) (by omega) (by omega) (by omega) (by omega) hW (by omega) hX
    | 4, _ => exact bq_fin (c := 1) (d := 576) (by omega) (by omega) (by omega) (by omega) hW (by omega) hX
    | 5, _ => exact bq_fin (c := 1) (d := 720) (by omega) (by omega) (by omega) (by omega) hW (by omega) hX
    | 6, _ => exact bq_fin (c := 1) (d := 1440) (by omega) (by omega) (by omega) (by omega) hW (by omega) hX
    | 7, _ => exact bq_fin (c := 1) (d := 5040) (by omega) (by omega) (by omega) (by omega) hW (by omega) hX
    | 8, _ => exact bq_fin (c := 1) (d := 40320) (by omega) (by omega) (by omega) (by omega) hW (by omega) hX
    | j + 9, hj => omega
theorem bq_1_9 (f g : Nat → Int) (hf : ∀ i, 1 < i → f i = 0) (hg : ∀ i, 9 < i → g i = 0) {X : Int} (hX : 0 ≤ X) (h : ∀ k, sm (fun i => f i * g (k - i)) (k + 1) * sm (fun i => f i * g (k - i)) (k + 1) ≤ X) : (∀ i, i ≤ 1 → (f i * g 9) * (f i * g 9) ≤ 9604 * X) ∧ (∀ j, j ≤ 9 → (f 1 * g j) * (f 1 * g j) ≤ 9604 * X) := by
  have b := bo_1_9 f g
  have s0 : sm (fun i => f i * g (0 - i)) (0 + 1) = f 0 * g 0 := by
    simp only [sm]
    grind
  have h0 := h 0
  rw [s0] at h0
  have s1 : sm (fun i => f i * g (1 - i)) (1 + 1) = f 0 * g 1 + f 1 * g 0 := by
    simp only [sm]
    grind
  have h1 := h 1
  rw [s1] at h1
  have s2 : sm (fun i => f i * g (2 - i)) (2 + 1) = f 0 * g 2 + f 1 * g 1 := by
    simp only [sm, hf 2 (by omega)]
    grind
  have h2 := h 2
  rw [s2] at h2
  have s3 : sm (fun i => f i * g (3 - i)) (3 + 1) = f 0 * g 3 + f 1 * g 2 := by
    simp only [sm, hf 2 (by omega), hf 3 (by omega)]
    grind
  have h3 := h 3
  rw [s3] at h3
  have s4 : sm (fun i => f i * g (4 - i)) (4 + 1) = f 0 * g 4 + f 1 * g 3 := by
    simp only [sm, hf 2 (by omega), hf 3 (by omega), hf 4 (by omega)]
    grind
  have h4 := h 4
  rw [s4] at h4
  have s5 : sm (fun i => f i * g (5 - i)) (5 + 1) = f 0 * g 5 + f 1 * g 4 := by
    simp only [sm, hf 2 (by omega), hf 3 (by omega), hf 4 (by omega), hf 5 (by omega)]
    grind
  have h5 := h 5
  rw [s5] at h5
  have s6 : sm (fun i => f i * g (6 - i)) (6 + 1) = f 0 * g 6 + f 1 * g 5 := by
    simp only [sm, hf 2 (by omega), hf 3 (by omega), hf 4 (by omega), hf 5 (by omega), hf 6 (by omega)]
    grind
  have h6 := h 6
  rw [s6] at h6
  have s7 : sm (fun i => f i * g (7 - i)) (7 + 1) = f 0 * g 7 + f 1 * g 6 := by
    simp only [sm, hf 2 (by omega), hf 3 (by omega), hf 4 (by omega), hf 5 (by omega), hf 6 (by omega), hf 7 (by omega)]
    grind
  have h7 := h 7
  rw [s7] at h7
  have s8 : sm (fun i => f i * g (8 - i)) (8 + 1) = f 0 * g 8 + f 1 * g 7 := by
    simp only [sm, hf 2 (by omega), hf 3 (by omega), hf 4 (by omega), hf 5 (by omega), hf 6 (by omega), hf 7 (by omega), hf 8 (by omega)]
    grind
  have h8 := h 8
  rw [s8] at h8
  have s9 : sm (fun i => f i * g (9 - i)) (9 + 1) = f 0 * g 9 + f 1 * g 8 := by
    simp only [sm, hf 2 (by omega), hf 3 (by omega), hf 4 (by omega), hf 5 (by omega), hf 6 (by omega), hf 7 (by omega), hf 8 (by omega), hf 9 (by omega)]
    grind
  have h9 := h 9
  rw [s9] at h9
  have s10 : sm (fun i => f i * g (10 - i)) (10 + 1) = f 1 * g 9 := by
    simp only [sm, hf 2 (by omega), hf 3 (by omega), hf 4 (by omega), hf 5 (by omega), hf 6 (by omega), hf 7 (by omega), hf 8 (by omega), hf 9 (by omega), hf 10 (by omega), hg 10 (by omega)]
    grind
  have h10 := h 10
  rw [s10] at h10
  have p0 := sq0 (f 0)
  have p1 := sq0 (f 1)
  have q0 := sq0 (g 0)
  have q1 := sq0 (g 1)
  have q2 := sq0 (g 2)
  have q3 := sq0 (g 3)
  have q4 := sq0 (g 4)
  have q5 := sq0 (g 5)
  have q6 := sq0 (g 6)
  have q7 := sq0 (g 7)
  have q8 := sq0 (g 8)
  have q9 := sq0 (g 9)
  have hW : (1 * (f 0 * f 0) + 1 * (f 1 * f 1)) * (362880 * (g 0 * g 0) + 40320 * (g 1 * g 1) + 10080 * (g 2 * g 2) + 4320 * (g 3 * g 3) + 2880 * (g 4 * g 4) + 2880 * (g 5 * g 5) + 4320 * (g 6 * g 6) + 10080 * (g 7 * g 7) + 40320 * (g 8 * g 8) + 362880 * (g 9 * g 9)) ≤ 8254080 * X := by omega
  clear b s0 h0 s1 h1 s2 h2 s3 h3 s4 h4 s5 h5 s6 h6 s7 h7 s8 h8 s9 h9 s10 h10
  refine ⟨fun i hi => ?_, fun j hj => ?_⟩
  · match i, hi with
    | 0, _ => exact bq_fin (c := 1) (d := 362880) (by omega) (by omega) (by omega) (by omega) hW (by omega) hX
    | 1, _ => exact bq_fin (c := 1) (d := 362880) (by omega) (by omega) (by omega) (by omega) hW (by omega) hX
    | i + 2, hi => omega
  · match j, hj with
    | 0, _ => exact bq_fin (c := 1) (d := 362880) (by omega) (by omega) (by omega) (by omega) hW (by omega) hX
    | 1, _ => exact bq_fin (c := 1) (d := 40320) (by omega) (by omega) (by omega) (by omega) hW (by omega) hX
    | 2, _ => exact bq_fin (c := 1) (d := 10080) (by omega) (by omega) (by omega) (by omega) hW (by omega) hX
    | 3, _ => exact bq_fin (c := 1) (d := 4320) (by omega) (by omega) (by omega) (by omega) hW (by omega) hX
    | 4, _ => exact bq_fin (c := 1) (d := 2880) (by omega) (by omega) (by omega) (by omega) hW (by omega) hX
    | 5, _ => exact bq_fin (c := 1) (d := 2880) (by omega) (by omega) (by omega) (by omega) hW (by omega) hX
    | 6, _ => exact bq_fin (c := 1) (d := 4320) (by omega) (by omega) (by omega) (by omega) hW (by omega) hX
    | 7, _ => exact bq_fin (c := 1) (d := 10080) (by omega) (by omega) (by omega) (by omega) hW (by omega) hX
    | 8, _ => exact bq_fin (c := 1) (d := 40320) (by omega) (by omega) (by omega) (by omega) hW (by omega) hX
    | 9, _ => exact bq_fin (c := 1) (d := 362880) (by omega) (by omega) (by omega) (by omega) hW (by omega) hX
    | j + 10, hj => omega
theorem bq_2_2 (f g : Nat → Int) (hf : ∀ i, 2 < i → f i = 0) (hg : ∀ i, 2 < i → g i = 0) {X : Int} (hX : 0 ≤ X) (h : ∀ k, sm (fun i => f i * g (k - i)) (k + 1) * sm (fun i => f i * g (k - i)) (k + 1) ≤ X) : (∀ i, i ≤ 2 → (f i * g 2) * (f i * g 2) ≤ 9604 * X) ∧ (∀ j, j ≤ 2 → (f 2 * g j) * (f 2 * g j) ≤ 9604 * X) := by
  have b := bo_2_2 f g
  have s0 : sm (fun i => f i * g (0 - i)) (0 + 1) = f 0 * g 0 := by
    simp only [sm]
    grind
  have h0 := h 0
  rw [s0] at h0
  have s1 : sm (fun i => f i * g (1 - i)) (1 + 1) = f 0 * g 1 + f 1 * g 0 := by
    simp only [sm]
    grind
  have h1 := h 1
  rw [s1] at h1
  have s2 : sm (fun i => f i * g (2 - i)) (2 + 1) = f 0 * g 2 + f 1 * g 1 + f 2 * g 0 := by
    simp only [sm]
    grind
  have h2 := h 2
  rw [s2] at h2
  have s3 : sm (fun i => f i * g (3 - i)) (3 + 1) = f 1 * g 2 + f 2 * g 1 := by
    simp only [sm, hf 3 (by omega), hg 3 (by omega)]
    grind
  have h3 := h 3
  rw [s3] at h3
  have s4 : sm (fun i => f i * g (4 - i)) (4 + 1) = f 2 * g 2 := by
    simp only [sm, hf 3 (by omega), hf 4 (by omega), hg 3 (by omega), hg 4 (by omega)]
    grind
  have h4 := h 4
  rw [s4] at h4
  have p0 := sq0 (f 0)
  have p1 := sq0 (f 1)
  have p2 := sq0 (f 2)
  have q0 := sq0 (g 0)
  have q1 := sq0 (g 1)
  have q2 := sq0 (g 2)
  have hW : (2 * (f 0 * f 0) + 1 * (f 1 * f 1) + 2 * (f 2 * f 2)) * (2 * (g 0 * g 0) + 1 * (g 1 * g 1) + 2 * (g 2 * g 2)) ≤ 64 * X := by omega
  clear b s0 h0 s1 h1 s2 h2 s3 h3 s4 h4
  refine ⟨fun i hi => ?_, fun j hj => ?_⟩
  · match i, hi with
    | 0, _ => exact bq_fin (c := 2) (d := 2) (by omega) (by omega) (by omega) (by omega) hW (by omega) hX
    | 1, _ => exact bq_fin (c := 1) (d := 2) (by omega) (by omega) (by omega) (by omega) hW (by omega) hX
    | 2, _ => exact bq_fin (c := 2) (d := 2) (by omega) (by omega) (by omega) (by omega) hW (by omega) hX
    | i + 3, hi => omega
  · match j, hj with
    | 0, _ => exact bq_fin (c := 2) (d := 2) (by omega) (by omega) (by omega) (by omega) hW (by omega) hX
    | 1, _ => exact bq_fin (c := 2) (d := 1) (by omega) (by omega) (by omega) (by omega) hW (by omega) hX
    | 2, _ => exact bq_fin (c := 2) (d := 2) (by omega) (by omega) (by omega) (by omega) hW (by omega) hX
    | j + 3, hj => omega
theorem bq_2_3 (f g : Nat → Int) (hf : ∀ i, 2 < i → f i = 0) (hg : ∀ i, 3 < i → g i = 0) {X : Int} (hX : 0 ≤ X) (h : ∀ k, sm (fun i => f i * g (k - i)) (k + 1) * sm (fun i => f i * g (k - i)) (k + 1) ≤ X) : (∀ i, i ≤ 2 → (f i * g 3) * (f i * g 3) ≤ 9604 * X) ∧ (∀ j, j ≤ 3 → (f 2 * g j) * (f 2 * g j) ≤ 9604 * X) := by
  have b := bo_2_3 f g
  have s0 : sm (fun i => f i * g (0 - i)) (0 + 1) = f 0 * g 0 := by
    simp only [sm]
    grind
  have h0 := h 0
  rw [s0] at h0
  have s1 : sm (fun i => f i * g (1 - i)) (1 + 1) = f 0 * g 1 + f 1 * g 0 := by
    simp only [sm]
    grind
  have h1 := h 1
  rw [s1] at h1
  have s2 : sm (fun i => f i * g (2 - i)) (2 + 1) = f 0 * g 2 + f 1 * g 1 + f 2 * g 0 := by
    simp only [sm]
    grind
  have h2 := h 2
  rw [s2] at h2
  have s3 : sm (fun i => f i * g (3 - i)) (3 + 1) = f 0 * g 3 + f 1 * g 2 + f 2 * g 1 := by
    simp only [sm, hf 3 (by omega)]
    grind
  have h3 := h 3
  rw [s3] at h3
  have s4 : sm (fun i => f i * g (4 - i)) (4 + 1) = f 1 * g 3 + f 2 * g 2 := by
    simp only [sm, hf 3 (by omega), hf 4 (by omega), hg 4 (by omega)]
    grind
  have h4 := h 4
  rw [s4] at h4
  have s5 : sm (fun i => f i * g (5 - i)) (5 + 1) = f 2 * g 3 := by
    simp only [sm, hf 3 (by omega), hf 4 (by omega), hf 5 (by omega), hg 4 (by omega), hg 5 (by omega)]
    grind
  have h5 := h 5
  rw [s5] at h5
  have p0 := sq0 (f 0)
  have p1 := sq0 (f 1)
  have p2 := sq0 (f 2)
  have q0 := sq0 (g 0)
  have q1 := sq0 (g 1)
  have q2 := sq0 (g 2)
  have q3 := sq0 (g 3)
  have hW : (2 * (f 0 * f 0) + 1 * (f 1 * f 1) + 2 * (f 2 * f 2)) * (6 * (g 0 * g 0) + 2 * (g 1 * g 1) + 2 * (g 2 * g 2) + 6 * (g 3 * g 3)) ≤ 312 * X := by omega
  clear b s0 h0 s1 h1 s2 h2 s3 h3 s4 h4 s5 h5
  refine ⟨fun i hi => ?_, fun j hj => ?_⟩
  · match i, hi with
    | 0, _ => exact bq_fin (c := 2) (d := 6) (by omega) (by omega) (by omega) (by omega) hW (by omega) hX
    | 1, _ => exact bq_fin (c := 1) (d := 6) (by omega) (by omega) (by omega) (by omega) hW (by omega) hX
    | 2, _ => exact bq_fin (c := 2) (d := 6) (by omega) (by omega) (by omega) (by omega) hW (by omega) hX
    | i + 3, hi => omega
  · match j, hj with
    | 0, _ => exact bq_fin (c := 2) (d := 6) (by omega) (by omega) (by omega) (by omega) hW (by omega) hX
    | 1, _ => exact bq_fin (c := 2) (d := 2) (by omega) (by omega) (by omega) (by omega) hW (by omega) hX
    | 2, _ => exact bq_fin (c := 2) (d := 2) (by omega) (by omega) (by omega) (by omega) hW (by omega) hX
    | 3, _ => exact bq_fin (c := 2) (d := 6) (by omega) (by omega) (by omega) (by omega) hW (by omega) hX
    | j + 4, hj => omega
theorem bq_2_4 (f g : Nat → Int) (hf : ∀ i, 2 < i → f i = 0) (hg : ∀ i, 4 < i → g i = 0) {X : Int} (hX : 0 ≤ X) (h : ∀ k, sm (fun i => f i * g (k - i)) (k + 1) * sm (fun i => f i * g (k - i)) (k + 1) ≤ X) : (∀ i, i ≤ 2 → (f i * g 4) * (f i * g 4) ≤ 9604 * X) ∧ (∀ j, j ≤ 4 → (f 2 * g j) * (f 2 * g j) ≤ 9604 * X) := by
  have b := bo_2_4 f g
  have s0 : sm (fun i => f i * g (0 - i)) (0 + 1) = f 0 * g 0 := by
    simp only [sm]
    grind
  have h0 := h 0
  rw [s0] at h0
  have s1 : sm (fun i => f i * g (1 - i)) (1 + 1) = f 0 * g 1 + f 1 * g 0 := by
    simp only [sm]
    grind
  have h1 := h 1
  rw [s1] at h1
  have s2 : sm (fun i => f i * g (2 - i)) (2 + 1) = f 0 * g 2 + f 1 * g 1 + f 2 * g 0 := by
    simp only [sm]
    grind
  have h2 := h 2
  rw [s2] at h2
  have s3 : sm (fun i => f i * g (3 - i)) (3 + 1) = f 0 * g 3 + f 1 * g 2 + f 2 * g 1 := by
    simp only [sm, hf 3 (by omega)]
    grind
  have h3 := h 3
  rw [s3] at h3
  have s4 : sm (fun i => f i * g (4 - i)) (4 + 1) = f 0 * g 4 + f 1 * g 3 + f 2 * g 2 := by
    simp only [sm, hf 3 (by omega), hf 4 (by omega)]
    grind
  have h4 := h 4
  rw [s4] at h4
  have s5 : sm (fun i => f i * g (5 - i)) (5 + 1) = f 1 * g 4 + f 2 * g 3 := by
    simp only [sm, hf 3 (by omega), hf 4 (by omega), hf 5 (by omega), hg 5 (by omega)]
    grind
  have h5 := h 5
  rw [s5] at h5
  have s6 : sm (fun i => f i * g (6 - i)) (6 + 1) = f 2 * g 4 := by
    simp only [sm, hf 3 (by omega), hf 4 (by omega), hf 5 (by omega), hf 6 (by omega), hg 5 (by omega), hg 6 (by omega)]
    grind
  have h6 := h 6
  rw [s6] at h6
  have p0 := sq0 (f 0)
  have p1 := sq0 (f 1)
  have p2 := sq0 (f 2)
  have q0 := sq0 (g 0)
  have q1 := sq0 (g 1)
  have q2 := sq0 (g 2)
  have q3 := sq0 (g 3)
  have q4 := sq0 (g 4)
  have hW : (2 * (f 0 * f 0) + 1 * (f 1 * f 1) + 2 * (f 2 * f 2)) * (24 * (g 0 * g 0) + 6 * (g 1 * g 1) + 4 * (g 2 * g 2) + 6 * (g 3 * g 3) + 24 * (g 4 * g 4)) ≤ 1812 * X := by omega
  clear b s0 h0 s1 h1 s2 h2 s3 h3 s4 h4 s5 h5 s6 h6
  refine ⟨fun i hi => ?_, fun j hj => ?_⟩
  · match i, hi with
    | 0, _ => exact bq_fin (c := 2) (d := 24) (by omega) (by omega) (by omega) (by omega) hW (by omega) hX
    | 1, _ => exact bq_fin (c := 1) (d := 24) (by omega) (by omega) (by omega) (by omega) hW (by omega) hX
    | 2, _ => exact bq_fin (c := 2) (d := 24) (by omega) (by omega) (by omega) (by omega) hW (by omega) hX
    | i + 3, hi => omega
  · match j, hj with
    | 0, _ => exact bq_fin (c := 2) (d := 24) (by omega) (by omega) (by omega) (by omega) hW (by omega) hX
    | 1, _ => exact bq_fin (c := 2) (d := 6) (by omega) (by omega) (by omega) (by omega) hW (by omega) hX
    | 2, _ => exact bq_fin (c := 2) (d := 4) (by omega) (by omega) (by omega) (by omega) hW (by omega) hX
    | 3, _ => exact bq_fin (c := 2) (d := 6) (by omega) (by omega) (by omega) (by omega) hW (by omega) hX
    | 4, _ => exact bq_fin (c := 2) (d := 24) (by omega) (by omega) (by omega) (by omega) hW (by omega) hX
    | j + 5, hj => omega
theorem bq_2_5 (f g : Nat → Int) (hf : ∀ i, 2 < i → f i = 0) (hg : ∀ i, 5 < i → g i = 0) {X : Int} (hX : 0 ≤ X) (h : ∀ k, sm (fun i => f i * g (k - i)) (k + 1) * sm (fun i => f i * g (k - i)) (k + 1) ≤ X) : (∀ i, i ≤ 2 → (f i * g 5) * (f i * g 5) ≤ 9604 * X) ∧ (∀ j, j ≤ 5 → (f 2 * g j) * (f 2 * g j) ≤ 9604 * X) := by
  have b := bo_2_5 f g
  have s0 : sm (fun i => f i * g (0 - i)) (0 + 1) = f 0 * g 0 := by
    simp only [sm]
    grind
  have h0 := h 0
  rw [s0] at h0
  have s1 : sm (fun i => f i * g (1 - i)) (1 + 1) = f 0 * g 1 + f 1 * g 0 := by
    simp only [sm]
    grind
  have h1 := h 1
  rw [s1] at h1
  have s2 : sm (fun i => f i * g (2 - i)) (2 + 1) = f 0 * g 2 + f 1 * g 1 + f 2 * g 0 := by
    simp only [sm]
    grind
  have h2 := h 2
  rw [s2] at h2
  have s3 : sm (fun i => f i * g (3 - i)) (3 + 1) = f 0 * g 3 + f 1 * g 2 + f 2 * g 1 := by
    simp only [sm, hf 3 (by omega)]
    grind
  have h3 := h 3
  rw [s3] at h3
  have s4 : sm (fun i => f i * g (4 - i)) (4 + 1) = f 0 * g 4 + f 1 * g 3 + f 2 * g 2 := by
    simp only [sm, hf 3 (by omega), hf 4 (by omega)]
    grind
  have h4 := h 4
  rw [s4] at h4
  have s5 : sm (fun i => f i * g (5 - i)) (5 + 1) = f 0 * g 5 + f 1 * g 4 + f 2 * g 3 := by
    simp only [sm, hf 3 (by omega), hf 4 (by omega), hf 5 (by omega)]
    grind
  have h5 := h 5
  rw [s5] at h5
  have s6 : sm (fun i => f i * g (6 - i)) (6 + 1) = f 1 * g 5 + f 2 * g 4 := by
    simp only [sm, hf 3 (by omega), hf 4 (by omega), hf 5 (by omega), hf 6 (by omega), hg 6 (by omega)]
    grind
  have h6 := h 6
  rw [s6] at h6
  have s7 : sm (fun i => f i * g (7 - i)) (7 + 1) = f 2 * g 5 := by
    simp only [sm, hf 3 (by omega), hf 4 (by omega), hf 5 (by omega), hf 6 (by omega), hf 7 (by omega), hg 6 (by omega), hg 7 (by omega)]
    grind
  have h7 := h 7
  rw [s7] at h7
  have p0 := sq0 (f 0)
  have p1 := sq0 (f 1)
  have p2 := sq0 (f 2)
  have q0 := sq0 (g 0)
  have q1 := sq0 (g 1)
  have q2 := sq0 (g 2)
  have q3 := sq0 (g 3)
  have q4 := sq0 (g 4)
  have q5 := sq0 (g 5)
  have hW : (2 * (f 0 * f 0) + 1 * (f 1 * f 1) + 2 * (f 2 * f 2)) * (120 * (g 0 * g 0) + 24 * (g 1 * g 1) + 12 * (g 2 * g 2) + 12 * (g 3 * g 3) + 24 * (g 4 * g 4) + 120 * (g 5 * g 5)) ≤ 12288 * X := by omega
  clear b s0 h0 s1 h1 s2 h2 s3 h3 s4 h4 s5 h5 s6 h6 s7 h7
  refine ⟨fun i hi => ?_, fun j hj => ?_⟩
  · match i, hi with
    | 0, _ => exact bq_fin (c := 2) (d := 120) (by omega) (by omega) (by omega) (by omega) hW (by omega) hX
    | 1, _ => exact bq_fin (c := 1) (d := 120) (by omega) (by omega) (by omega) (by omega) hW (by omega) hX
    | 2, _ => exact bq_fin (c := 2) (d := 120) (by omega) (by omega) (by omega) (by omega) hW (by omega) hX
    | i + 3, hi => omega
  · match j, hj with
    | 0, _ => exact bq_fin (c := 2) (d := 120) (by omega) (by omega) (by omega) (by omega) hW (by omega) hX
    | 1, _ => exact bq_fin (c := 2) (d := 24) (by omega) (by omega) (by omega) (by omega) hW (by omega) hX
    | 2, _ => exact bq_fin (c := 2) (d := 12) (by omega) (by omega) (by omega) (by omega) hW (by omega) hX
    | 3, _ => exact bq_fin (c := 2) (d := 12) (by omega) (by omega) (by omega) (by omega) hW (by omega) hX
    | 4, _ => exact bq_fin (c := 2) (d := 24) (by omega) (by omega) (by omega) (by omega) hW (by omega) hX
    | 5, _ => exact bq_fin (c := 2) (d := 120) (by omega) (by omega) (by omega) (by omega) hW (by omega) hX
    | j + 6, hj => omega
theorem bq_2_6 (f g : Nat → Int) (hf : ∀ i, 2 < i → f i = 0) (hg : ∀ i, 6 < i → g i = 0) {X : Int} (hX : 0 ≤ X) (h : ∀ k, sm (fun i => f i * g (k - i)) (k + 1) * sm (fun i => f i * g (k - i)) (k + 1) ≤ X) : (∀ i, i ≤ 2 → (f i * g 6) * (f i * g 6) ≤ 9604 * X) ∧ (∀ j, j ≤ 6 → (f 2 * g j) * (f 2 * g j) ≤ 9604 * X) := by
  have b := bo_2_6 f g
  have s0 : sm (fun i => f i * g (0 - i)) (0 + 1) = f 0 * g 0 := by
    simp only [sm]
    grind
  have h0 := h 0
  rw [s0] at h0
  have s1 : sm (fun i => f i * g (1 - i)) (1 + 1) = f 0 * g 1 + f 1 * g 0 := by
    simp only [sm]
    grind
  have h1 := h 1
  rw [s1] at h1
  have s2 : sm (fun i => f i * g (2 - i)) (2 + 1) = f 0 * g 2 + f 1 * g 1 + f 2 * g 0 := by
    simp only [sm]
    grind
  have h2 := h 2
  rw [s2] at h2
  have s3 : sm (fun i => f i * g (3 - i)) (3 + 1) = f 0 * g 3 + f 1 * g 2 + f 2 * g 1 := by
    simp only [sm, hf 3 (by omega)]
    grind
  have h3 := h 3
  rw [s3] at h3
  have s4 : sm (fun i => f i * g (4 - i)) (4 + 1) = f 0 * g 4 + f 1 * g 3 + f 2 * g 2 := by
    simp only [sm, hf 3 (by omega), hf 4 (by omega)]
    grind
  have h4 := h 4
  rw [s4] at h4
  have s5 : sm (fun i => f i * g (5 - i)) (5 + 1) = f 0 * g 5 + f 1 * g 4 + f 2 * g 3 := by
    simp only [sm, hf 3 (by omega), hf 4 (by omega), hf 5 (by omega)]
    grind
  have h5 := h 5
  rw [s5] at h5
  have s6 : sm (fun i => f i * g (6 - i)) (6 + 1) = f 0 * g 6 + f 1 * g 5 + f 2 * g 4 := by
    simp only [sm, hf 3 (by omega), hf 4 (by omega), hf 5 (by omega), hf 6 (by omega)]
    grind
  have h6 := h 6
  rw [s6] at h6
  have s7 : sm (fun i => f i * g (7 - i)) (7 + 1) = f 1 * g 6 + f 2 * g 5 := by
    simp only [sm, hf 3 (by omega), hf 4 (by omega), hf 5 (by omega), hf 6 (by omega), hf 7 (by omega), hg 7 (by omega)]
    grind
  have h7 := h 7
  rw [s7] at h7
  have s8 : sm (fun i => f i * g (8 - i)) (8 + 1) = f 2 * g 6 := by
    simp only [sm, hf 3 (by omega), hf 4 (by omega), hf 5 (by omega), hf 6 (by omega), hf 7 (by omega), hf 8 (by omega), hg 7 (by omega), hg 8 (by omega)]
    grind
  have h8 := h 8
  rw [s8] at h8
  have p0 := sq0 (f 0)
  have p1 := sq0 (f 1)
  have p2 := sq0 (f 2)
  have q0 := sq0 (g 0)
  have q1 := sq0 (g 1)
  have q2 := sq0 (g 2)
  have q3 := sq0 (g 3)
  have q4 := sq0 (g 4)
  have q5 := sq0 (g 5)
  have q6 := sq0 (g 6)
  have hW : (2 * (f 0 * f 0) + 1 * (f 1 * f 1) + 2 * (f 2 * f 2)) * (720 * (g 0 * g 0) + 120 * (g 1 * g 1) + 48 * (g 2 * g 2) + 36 * (g 3 * g 3) + 48 * (g 4 * g 4) + 120 * (g 5 * g 5) + 720 * (g 6 * g 6)) ≤ 95616 * X := by omega
  clear b s0 h0 s1 h1 s2 h2 s3 h3 s4 h4 s5 h5 s6 h6 s7 h7 s8 h8
  refine ⟨fun i hi => ?_, fun j hj => ?_⟩
  · match i, hi with
    | 0, _ => exact bq_fin (c := 2) (d := 720) (by omega) (by omega) (by omega) (by omega) hW (by omega) hX
    | 1, _ => exact bq_fin (c := 1) (d := 720) (by omega) (by omega) (by omega) (by omega) hW (by omega) hX
    | 2, _ => exact bq_fin (c := 2) (d := 720) (by omega) (by omega) (by omega) (by omega) hW (by omega) hX
    | i + 3, hi => omega
  · match j, hj with
    | 0, _ => exact bq_fin (c := 2) (d := 720) (by omega) (by omega) (by omega) (by omega) hW (by omega) hX
    | 1, _ => exact bq_fin (c := 2) (d := 120) (by omega) (by omega) (by omega) (by omega) hW (by omega) hX
    | 2, _ => exact bq_fin (c := 2) (d := 48) (by omega) (by omega) (by omega) (by omega) hW (by omega) hX
    | 3, _ => exact bq_fin (c := 2) (d := 36) (by omega) (by omega) (by omega) (by omega) hW (by omega) hX
    | 4, _ => exact bq_fin (c := 2) (d := 48) (by omega) (by omega) (by omega) (by omega) hW (by omega) hX
    | 5, _ => exact bq_fin (c := 2) (d := 120) (by omega) (by omega) (by omega) (by omega) hW (by omega) hX
    | 6, _ => exact bq_fin (c := 2) (d := 720) (by omega) (by omega) (by omega) (by omega) hW (by omega) hX
    | j + 7, hj => omega
theorem bq_2_7 (f g : Nat → Int) (hf : ∀ i, 2 < i → f i = 0) (hg : ∀ i, 7 < i → g i = 0) {X : Int} (hX : 0 ≤ X) (h : ∀ k, sm (fun i => f i * g (k - i)) (k + 1) * sm (fun i => f i * g (k - i)) (k + 1) ≤ X) : (∀ i, i ≤ 2 → (f i * g 7) * (f i * g 7) ≤ 9604 * X) ∧ (∀ j, j ≤ 7 → (f 2 * g j) * (f 2 * g j) ≤ 9604 * X) := by
  have b := bo_2_7 f g
  have s0 : sm (fun i => f i * g (0 - i)) (0 + 1) = f 0 * g 0 := by
    simp only [sm]
    grind
  have h0 := h 0
  rw [s0] at h0
  have s1 : sm (fun i => f i * g (1 - i)) (1 + 1) = f 0 * g 1 + f 1 * g 0 := by
    simp only [sm]
    grind
  have h1 := h 1
  rw [s1] at h1
  have s2 : sm (fun i => f i * g (2 - i)) (2 + 1) = f 0 * g 2 + f 1 * g 1 + f 2 * g 0 := by
    simp only [sm]
    grind
  have h2 := h 2
  rw [s2] at h2
  have s3 : sm (fun i => f i * g (3 - i)) (3 + 1) = f 0 * g 3 + f 1 * g 2 + f 2 * g 1 := by
    simp only [sm, hf 3 (by omega)]
    grind
  have h3 := h 3
  rw [s3] at h3
  have s4 : sm (fun i => f i * g (4 - i)) (4 + 1) = f 0 * g 4 + f 1 * g 3 + f 2 * g 2 := by
    simp only [sm, hf 3 (by omega), hf 4 (by omega)]
    grind
  have h4 := h 4
  rw [s4] at h4
  have s5 : sm (fun i => f i * g (5 - i)) (5 + 1) = f 0 * g 5 + f 1 * g 4 + f 2 * g 3 := by
    simp only [sm, hf 3 (by omega), hf 4 (by omega), hf 5 (by omega)]
    grind
  have h5 := h 5
  rw [s5] at h5
  have s6 : sm (fun i => f i * g (6 - i)) (6 + 1) = f 0 * g 6 + f 1 * g 5 + f 2 * g 4 := by
    simp only [sm, hf 3 (by omega), hf 4 (by omega), hf 5 (by omega), hf 6 (by omega)]
    grind
  have h6 := h 6
  rw [s6] at h6
  have s7 : sm (fun i => f i * g (7 - i)) (7 + 1) = f 0 * g 7 + f 1 * g 6 + f 2 * g 5 := by
    simp only [sm, hf 3 (by omega), hf 4 (by omega), hf 5 (by omega), hf 6 (by omega), hf 7 (by omega)]
    grind
  have h7 := h 7
  rw [s7] at h7
  have s8 : sm (fun i => f i * g (8 - i)) (8 + 1) = f 1 * g 7 + f 2 * g 6 := by
    simp only [sm, hf 3 (by omega), hf 4 (by omega), hf 5 (by omega), hf 6 (by omega), hf 7 (by omega), hf 8 (by omega), hg 8 (by omega)]
    grind
  have h8 := h 8
  rw [s8] at h8
  have s9 : sm (fun i => f i * g (9 - i)) (9 + 1) = f 2 * g 7 := by
    simp only [sm, hf 3 (by omega), hf 4 (by omega), hf 5 (by omega), hf 6 (by omega), hf 7 (by omega), hf 8 (by omega), hf 9 (by omega), hg 8 (by omega), hg 9 (by omega)]
    grind
  have h9 := h 9
  rw [s9] at h9
  have p0 := sq0 (f 0)
  have p1 := sq0 (f 1)
  have p2 := sq0 (f 2)
  have q0 := sq0 (g 0)
  have q1 := sq0 (g 1)
  have q2 := sq0 (g 2)
  have q3 := sq0 (g 3)
  have q4 := sq0 (g 4)
  have q5 := sq0 (g 5)
  have q6 := sq0 (g 6)
  have q7 := sq0 (g 7)
  have hW : (2 * (f 0 * f 0) + 1 * (f 1 * f 1) + 2 * (f 2 * f 2)) * (5040 * (g 0 * g 0) + 720 * (g 1 * g 1) + 240 * (g 2 * g 2) + 144 * (g 3 * g 3) + 144 * (g 4 * g 4) + 240 * (g 5 * g 5) + 720 * (g 6 * g 6) + 5040 * (g 7 * g 7)) ≤ 840960 * X := by omega
  clear b s0 h0 s1 h1 s2 h2 s3 h3 s4 h4 s5 h5 s6 h6 s7 h7 s8 h8 s9 h9
  refine ⟨fun i hi => ?_, fun j hj => ?_⟩
  · match i, hi with
    | 0, _ => exact bq_fin (c := 2) (d := 5040) (by omega) (by omega) (by omega) (by omega) hW (by omega) hX
    | 1, _ => exact bq_fin (c := 1) (d := 5040) (by omega) (by omega) (by omega) (by omega) hW (by omega) hX
    | 2, _ => exact bq_fin (c := 2) (d := 5040) (by omega) (by omega) (by omega) (by omega) hW (by omega) hX
    | i + 3, hi => omega
  · match j, hj with
    | 0, _ => exact bq_fin (c := 2) (d := 5040) (by omega) (by omega) (by omega) (by omega) hW (by omega) hX
    | 1, _ => exact bq_fin (c := 2) (d := 720) (by omega) (by omega) (by omega) (by omega) hW (by omega) hX
    | 2, _ => exact bq_fin (c := 2) (d := 240) (by omega) (by omega) (by omega) (by omega) hW (by omega) hX
    | 3, _ => exact bq_fin (c := 2) (d := 144) (by omega) (by omega) (by omega) (by omega) hW (by omega) hX
    | 4, _ => exact bq_fin (c := 2) (d := 144) (by omega) (by omega) (by omega) (by omega) hW (by omega) hX
    | 5, _ => exact bq_fin (c := 2) (d := 240) (by omega) (by omega) (by omega) (by omega) hW (by omega) hX
    | 6, _ => exact bq_fin (c := 2) (d := 720) (by omega) (by omega) (by omega) (by omega) hW (by omega) hX
    | 7, _ => exact bq_fin (c := 2) (d := 5040) (by omega) (by omega) (by omega) (by omega) hW (by omega) hX
    | j + 8, hj => omega
theorem bq_2_8 (f g : Nat → Int) (hf : ∀ i, 2 < i → f i = 0) (hg : ∀ i, 8 < i → g i = 0) {X : Int} (hX : 0 ≤ X) (h : ∀ k, sm (fun i => f i * g (k - i)) (k + 1) * sm (fun i => f i * g (k - i)) (k + 1) ≤ X) : (∀ i, i ≤ 2 → (f i * g 8) * (f i * g 8) ≤ 9604 * X) ∧ (∀ j, j ≤ 8 → (f 2 * g j) * (f 2 * g j) ≤ 9604 * X) := by
  have b := bo_2_8 f g
  have s0 : sm (fun i => f i * g (0 - i)) (0 + 1) = f 0 * g 0 := by
    simp only [sm]
    grind
  have h0 := h 0
  rw [s0] at h0
  have s1 : sm (fun i => f i * g (1 - i)) (1 + 1) = f 0 * g 1 + f 1 * g 0 := by
    simp only [sm]
    grind
  have h1 := h 1
  rw [s1] at h1
  have s2 : sm (fun i => f i * g (2 - i)) (2 + 1) = f 0 * g 2 + f 1 * g 1 + f 2 * g 0 := by
    simp only [sm]
    grind
  have h2 := h 2
  rw [s2] at h2
  have s3 : sm (fun i => f i * g (3 - i)) (3 + 1) = f 0 * g 3 + f 1 * g 2 + f 2 * g 1 := by
    simp only [sm, hf 3 (by omega)]
    grind
  have h3 := h 3
  rw [s3] at h3
  have s4 : sm (fun i => f i * g (4 - i)) (4 + 1) = f 0 * g 4 + f 1 * g 3 + f 2 * g 2 := by
    simp only [sm, hf 3 (by omega), hf 4 (by omega)]
    grind
  have h4 := h 4
  rw [s4] at h4
  have s5 : sm (fun i => f i * g (5 - i)) (5 + 1) = f 0 * g 5 + f 1 * g 4 + f 2 * g 3 := by
    simp only [sm, hf 3 (by omega), hf 4 (by omega), hf 5 (by omega)]
    grind
  have h5 := h 5
  rw [s5] at h5
  have s6 : sm (fun i => f i * g (6 - i)) (6 + 1) = f 0 * g 6 + f 1 * g 5 + f 2 * g 4 := by
    simp only [sm, hf 3 (by omega), hf 4 (by omega), hf 5 (by omega), hf 6 (by omega)]
    grind
  have h6 := h 6
  rw [s6] at h6
  have s7 : sm (fun i => f i * g (7 - i)) (7 + 1) = f 0 * g 7 + f 1 * g 6 + f 2 * g 5 := by
    simp only [sm, hf 3 (by omega), hf 4 (by omega), hf 5 (by omega), hf 6 (by omega), hf 7 (by omega)]
    grind
  have h7 := h 7
  rw [s7] at h7
  have s8 : sm (fun i => f i * g (8 - i)) (8 + 1) = f 0 * g 8 + f 1 * g 7 + f 2 * g 6 := by
    simp only [sm, hf 3 (by omega), hf 4 (by omega), hf 5 (by omega), hf 6 (by omega), hf 7 (by omega), hf 8 (by omega)]
    grind
  have h8 := h 8
  rw [s8] at h8
  have s9 : sm (fun i => f i * g (9 - i)) (9 + 1) = f 1 * g 8 + f 2 * g 7 := by
    simp only [sm, hf 3 (by omega), hf 4 (by omega), hf 5 (by omega), hf 6 (by omega), hf 7 (by omega), hf 8 (by omega), hf 9 (by omega), hg 9 (by omega)]
    grind
  have h9 := h 9
  rw [s9] at h9
  have s10 : sm (fun i => f i * g (10 - i)) (10 + 1) = f 2 * g 8 := by
    simp only [sm, hf 3 (by omega), hf 4 (by omega), hf 5 (by omega), hf 6 (by omega), hf 7 (by omega), hf 8 (by omega), hf 9 (by omega), hf 10 (by omega), hg 9 (by omega), hg 10 (by omega)]
    grind
  have h10 := h 10
  rw [s10] at h10
  have p0 := sq0 (f 0)
  have p1 := sq0 (f 1)
  have p2 := sq0 (f 2)
  have q0 := sq0 (g 0)
  have q1 := sq0 (g 1)
  have q2 := sq0 (g 2)
  have q3 := sq0 (g 3)
  have q4 := sq0 (g 4)
  have q5 := sq0 (g 5)
  have q6 := sq0 (g 6)
  have q7 := sq0 (g 7)
  have q8 := sq0 (g 8)
  have hW : (2 * (f 0 * f 0) + 1 * (f 1 * f 1) + 2 * (f 2 * f 2)) * (40320 * (g 0 * g 0) + 5040 * (g 1 * g 1) + 1440 * (g 2 * g 2) + 720 * (g 3 * g 3) + 576 * (g 4 * g 4) + 720 * (g 5 * g 5) + 1440 * (g 6 * g 6) + 5040 * (g 7 * g 7) + 40320 * (g 8 * g 8)) ≤ 8254080 * X := by omega
  clear b s0 h0 s1 h1 s2 h2 s3 h3 s4 h4 s5 h5 s6 h6 s7 h7 s8 h8 s9 h9 s10 h10
  refine ⟨fun i hi => ?_, fun j hj => ?_⟩
  · match i, hi with
    | 0, _ => exact bq_fin (c := 2) (d := 40320) (by omega) (by omega) (by omega) (by omega) hW (by omega) hX
    | 1, _ => exact bq_fin (c := 1) (d := 40320) (by omega) (by omega) (by omega) (by omega) hW (by omega) hX
    | 2, _ => exact bq_fin (c := 2) (d := 40320) (by omega) (by omega) (by omega) (by omega) hW (by omega) hX
    | i + 3, hi => omega
  · match j, hj with
    | 0, _ => exact bq_fin (c := 2) (d := 40320) (by omega) (by omega) (by omega) (by omega) hW (by omega) hX
    | 1, _ => exact bq_fin (c := 2) (d := 5040) (by omega) (by omega) (by omega) (by omega) hW (by omega) hX
    | 2, _ => exact bq_fin (c := 2) (d := 1440) (by omega) (by omega) (by omega) (by omega) hW (by omega) hX
    | 3, _ => exact bq_fin (c := 2) (d := 720) (by omega) (by omega) (by omega) (by omega) hW (by omega) hX
    | 4, _ => exact bq_fin (c := 2) (d := 576) (by omega) (by omega) (by omega) (by omega) hW (by omega) hX
    | 5, _ => exact bq_fin (c := 2) (d := 720) (by omega) (by omega) (by omega) (by omega) hW (by omega) hX
    | 6, _ => exact bq_fin (c := 2) (d := 1440) (by omega) (by omega) (by omega) (by omega) hW (by omega) hX
    | 7, _ => exact bq_fin (c := 2) (d := 5040) (by omega) (by omega) (by omega) (by omega) hW (by omega) hX
    | 8, _ => exact bq_fin (c := 2) (d := 40320) (by omega) (by omega) (by omega) (by omega) hW (by omega) hX
    | j + 9, hj => omega
theorem bq_3_3 (f g : Nat → Int) (hf : ∀ i, 3 < i → f i = 0) (hg : ∀ i, 3 < i → g i = 0) {X : Int} (hX : 0 ≤ X) (h : ∀ k, sm (fun i => f i * g (k - i)) (k + 1) * sm (fun i => f i * g (k - i)) (k + 1) ≤ X) : (∀ i, i ≤ 3 → (f i * g 3) * (f i * g 3) ≤ 9604 * X) ∧ (∀ j, j ≤ 3 → (f 3 * g j) * (f 3 * g j) ≤ 9604 * X) := by
  have b := bo_3_3 f g
  have s0 : sm (fun i => f i * g (0 - i)) (0 + 1) = f 0 * g 0 := by
    simp only [sm]
    grind
  have h0 := h 0
  rw [s0] at h0
  have s1 : sm (fun i => f i * g (1 - i)) (1 + 1) = f 0 * g 1 + f 1 * g 0 := by
    simp only [sm]
    grind
  have h1 := h 1
  rw [s1] at h1
  have s2 : sm (fun i => f i * g (2 - i)) (2 + 1) = f 0 * g 2 + f 1 * g 1 + f 2 * g 0 := by
    simp only [sm]
    grind
  have h2 := h 2
  rw [s2] at h2
  have s3 : sm (fun i => f i * g (3 - i)) (3 + 1) = f 0 * g 3 + f 1 * g 2 + f 2 * g 1 + f 3 * g 0 := by
    simp only [sm]
    grind
  have h3 := h 3
  rw [s3] at h3
  have s4 : sm (fun i => f i * g (4 - i)) (4 + 1) = f 1 * g 3 + f 2 * g 2 + f 3 * g 1 := by
    simp only [sm, hf 4 (by omega), hg 4 (by omega)]
    grind
  have h4 := h 4
  rw [s4] at h4
  have s5 : sm (fun i => f i * g (5 - i)) (5 + 1) = f 2 * g 3 + f 3 * g 2 := by
    simp only [sm, hf 4 (by omega), hf 5 (by omega), hg 4 (by omega), hg 5 (by omega)]
    grind
  have h5 := h 5
  rw [s5] at h5
  have s6 : sm (fun i => f i * g (6 - i)) (6 + 1) = f 3 * g 3 := by
    simp only [sm, hf 4 (by omega), hf 5 (by omega), hf 6 (by omega), hg 4 (by omega), hg 5 (by omega), hg 6 (by omega)]
    grind
  have h6 := h 6
  rw [s6] at h6
  have p0 := sq0 (f 0)
  have p1 := sq0 (f 1)
  have p2 := sq0 (f 2)
  have p3 := sq0 (f 3)
  have q0 := sq0 (g 0)
  have q1 := sq0 (g 1)
  have q2 := sq0 (g 2)
  have q3 := sq0 (g 3)
  have hW : (6 * (f 0 * f 0) + 2 * (f 1 * f 1) + 2 * (f 2 * f 2) + 6 * (f 3 * f 3)) * (6 * (g 0 * g 0) + 2 * (g 1 * g 1) + 2 * (g 2 * g 2) + 6 * (g 3 * g 3)) ≤ 1812 * X := by omega
  clear b s0 h0 s1 h1 s2 h2 s3 h3 s4 h4 s5 h5 s6 h6
  refine ⟨fun i hi => ?_, fun j hj => ?_⟩
  · match i, hi with
    | 0, _ => exact bq_fin (c := 6) (d := 6) (by omega) (by omega) (by omega) (by omega) hW (by omega) hX
    | 1, _ => exact bq_fin (c := 2) (d := 6) (by omega) (by omega) (by omega) (by omega) hW (by omega) hX
    | 2, _ => exact bq_fin (c := 2) (d := 6) (by omega) (by omega) (by omega) (by omega) hW (by omega) hX
    | 3, _ => exact bq_fin (c := 6) (d := 6) (by omega) (by omega) (by omega) (by omega) hW (by omega) hX
    | i + 4, hi => omega
  · match j, hj with
    | 0, _ => exact bq_fin (c := 6) (d := 6) (by omega) (by omega) (by omega) (by omega) hW (by omega) hX
    | 1, _ => exact bq_fin (c := 6) (d := 2) (by omega) (by omega) (by omega) (by omega) hW (by omega) hX
    | 2, _ => exact bq_fin (c := 6) (d := 2) (by omega) (by omega) (by omega) (by omega) hW (by omega) hX
    | 3, _ => exact bq_fin (c := 6) (d := 6) (by omega) (by omega) (by omega) (by omega) hW (by omega) hX
    | j + 4, hj => omega
theorem bq_3_4 (f g : Nat → Int) (hf : ∀ i, 3 < i → f i = 0) (hg : ∀ i, 4 < i → g i = 0) {X : Int} (hX : 0 ≤ X) (h : ∀ k, sm (fun i => f i * g (k - i)) (k + 1) * sm (fun i => f i * g (k - i)) (k + 1) ≤ X) : (∀ i, i ≤ 3 → (f i * g 4) * (f i * g 4) ≤ 9604 * X) ∧ (∀ j, j ≤ 4 → (f 3 * g j) * (f 3 * g j) ≤ 9604 * X) := by
  have b := bo_3_4 f g
  have s0 : sm (fun i => f i * g (0 - i)) (0 + 1) = f 0 * g 0 := by
    simp only [sm]
    grind
  have h0 := h 0
  rw [s0] at h0
  have s1 : sm (fun i => f i * g (1 - i)) (1 + 1) = f 0 * g 1 + f 1 * g 0 := by
    simp only [sm]
    grind
  have h1 := h 1
  rw [s1] at h1
  have s2 : sm (fun i => f i * g (2 - i)) (2 + 1) = f 0 * g 2 + f 1 * g 1 + f 2 * g 0 := by
    simp only [sm]
    grind
  have h2 := h 2
  rw [s2] at h2
  have s3 : sm (fun i => f i * g (3 - i)) (3 + 1) = f 0 * g 3 + f 1 * g 2 + f 2 * g 1 + f 3 * g 0 := by
    simp only [sm]
    grind
  have h3 := h 3
  rw [s3] at h3
  have s4 : sm (fun i => f i * g (4 - i)) (4 + 1) = f 0 * g 4 + f 1 * g 3 + f 2 * g 2 + f 3 * g 1 := by
    simp only [sm, hf 4 (by omega)]
    grind
  have h4 := h 4
  rw [s4] at h4
  have s5 : sm (fun i => f i * g (5 - i)) (5 + 1) = f 1 * g 4 + f 2 * g 3 + f 3 * g 2 := by
    simp only [sm, hf 4 (by omega), hf 5 (by omega), hg 5 (by omega)]
    grind
  have h5 := h 5
  rw [s5] at h5
  have s6 : sm (fun i => f i * g (6 - i)) (6 + 1) = f 2 * g 4 + f 3 * g 3 := by
    simp only [sm, hf 4 (by omega), hf 5 (by omega), hf 6 (by omega), hg 5 (by omega), hg 6 (by omega)]
    grind
  have h6 := h 6
  rw [s6] at h6
  have s7 : sm (fun i => f i * g (7 - i)) (7 + 1) = f 3 * g 4 := by
    simp only [sm, hf 4 (by omega), hf 5 (by omega), hf 6 (by omega), hf 7 (by omega), hg 5 (by omega), hg 6 (by omega), hg 7 (by omega)]
    grind
  have h7 := h 7
  rw [s7] at h7
  have p0 := sq0 (f 0)
  have p1 := sq0 (f 1)
  have p2 := sq0 (f 2)
  have p3 := sq0 (f 3)
  have q0 := sq0 (g 0)
  have q1 := sq0 (g 1)
  have q2 := sq0 (g 2)
  have q3 := sq0 (g 3)
  have q4 := sq0 (g 4)
  have hW : (6 * (f 0 * f 0) + 2 * (f 1 * f 1) + 2 * (f 2 * f 2) + 6 * (f 3 * f 3)) * (24 * (g 0 * g 0) + 6 * (g 1 * g 1) + 4 * (g 2 * g 2) + 6 * (g 3 * g 3) + 24 * (g 4 * g 4)) ≤ 12288 * X := by omega
  clear b s0 h0 s1 h1 s2 h2 s3 h3 s4 h4 s5 h5 s6 h6 s7 h7
  refine ⟨fun i hi => ?_, fun j hj => ?_⟩
  · match i, hi with
    | 0, _ => exact bq_fin (c := 6) (d := 24) (by omega) (by omega) (by omega) (by omega) hW (by omega) hX
    | 1, _ => exact bq_fin (c := 2) (d := 24) (by omega) (by omega) (by omega) (by omega) hW (by omega) hX
    | 2, _ => exact bq_fin (c := 2) (d := 24) (by omega) (by omega) (by omega) (by omega) hW (by omega) hX
    | 3, _ => exact bq_fin (c := 6) (d := 24) (by omega) (by omega) (by omega) (by omega) hW (by omega) hX
    | i + 4, hi => omega
  · match j, hj with
    | 0, _ => exact bq_fin (c := 6) (d := 24) (by omega) (by omega) (by omega) (by omega) hW (by omega) hX
    | 1, _ => exact bq_fin (c := 6) (d := 6) (by omega) (by omega) (by omega) (by omega) hW (by omega) hX
    | 2, _ => exact bq_fin (c := 6) (d := 4) (by omega) (by omega) (by omega) (by omega) hW (by omega) hX
    | 3, _ => exact bq_fin (c := 6) (d := 6) (by omega) (by omega) (by omega) (by omega) hW (by omega) hX
    | 4, _ => exact bq_fin (c := 6) (d := 24) (by omega) (by omega) (by omega) (by omega) hW (by omega) hX
    | j + 5, hj => omega
theorem bq_3_5 (f g : Nat → Int) (hf : ∀ i, 3 < i → f i = 0) (hg : ∀ i, 5 < i → g i = 0) {X : Int} (hX : 0 ≤ X) (h : ∀ k, sm (fun i => f i * g (k - i)) (k + 1) * sm (fun i => f i * g (k - i)) (k + 1) ≤ X) : (∀ i, i ≤ 3 → (f i * g 5) * (f i * g 5) ≤ 9604 * X) ∧ (∀ j, j ≤ 5 → (f 3 * g j) * (f 3 * g j) ≤ 9604 * X) := by
  have b := bo_3_5 f g
  have s0 : sm (fun i => f i * g (0 - i)) (0 + 1) = f 0 * g 0 := by
    simp only [sm]
    grind
  have h0 := h 0
  rw [s0] at h0
  have s1 : sm (fun i => f i * g (1 - i)) (1 + 1) = f 0 * g 1 + f 1 * g 0 := by
    simp only [sm]
    grind
  have h1 := h 1
  rw [s1] at h1
  have s2 : sm (fun i => f i * g (2 - i)) (2 + 1) = f 0 * g 2 + f 1 * g 1 + f 2 * g 0 := by
    simp only [sm]
    grind
  have h2 := h 2
  rw [s2] at h2
  have s3 : sm (fun i => f i * g (3 - i)) (3 + 1) = f 0 * g 3 + f 1 * g 2 + f 2 * g 1 + f 3 * g 0 := by
    simp only [sm]
    grind
  have h3 := h 3
  rw [s3] at h3
  have s4 : sm (fun i => f i * g (4 - i)) (4 + 1) = f 0 * g 4 + f 1 * g 3 + f 2 * g 2 + f 3 * g 1 := by
    simp only [sm, hf 4 (by omega)]
    grind
  have h4 := h 4
  rw [s4] at h4
  have s5 : sm (fun i => f i * g (5 - i)) (5 + 1) = f 0 * g 5 + f 1 * g 4 + f 2 * g 3 + f 3 * g 2 := by
    simp only [sm, hf 4 (by omega), hf 5 (by omega)]
    grind
  have h5 := h 5
  rw [s5] at h5
  have s6 : sm (fun i => f i * g (6 - i)) (6 + 1) = f 1 * g 5 + f 2 * g 4 + f 3 * g 3 := by
    simp only [sm, hf 4 (by omega), hf 5 (by omega), hf 6 (by omega), hg 6 (by omega)]
    grind
  have h6 := h 6
  rw [s6] at h6
  have s7 : sm (fun i => f i * g (7 - i)) (7 + 1) = f 2 * g 5 + f 3 * g 4 := by
    simp only [sm, hf 4 (by omega), hf 5 (by omega), hf 6 (by omega), hf 7 (by omega), hg 6 (by omega), hg 7 (by omega)]
    grind
  have h7 := h 7
  rw [s7] at h7
  have s8 : sm (fun i => f i * g (8 - i)) (8 + 1) = f 3 * g 5 := by
    simp only [sm, hf 4 (by omega), hf 5 (by omega), hf 6 (by omega), hf 7 (by omega), hf 8 (by omega), hg 6 (by omega), hg 7 (by omega), hg 8 (by omega)]
    grind
  have h8 := h 8
  rw [s8] at h8
  have p0 := sq0 (f 0)
  have p1 := sq0 (f 1)
  have p2 := sq0 (f 2)
  have p3 := sq0 (f 3)
  have q0 := sq0 (g 0)
  have q1 := sq0 (g 1)
  have q2 := sq0 (g 2)
  have q3 := sq0 (g 3)
  have q4 := sq0 (g 4)
  have q5 := sq0 (g 5)
  have hW : (6 * (f 0 * f 0) + 2 * (f 1 * f 1) + 2 * (f 2 * f 2) + 6 * (f 3 * f 3)) * (120 * (g 0 * g 0) + 24 * (g 1 * g 1) + 12 * (g 2 * g 2) + 12 * (g 3 * g 3) + 24 * (g 4 * g 4) + 120 * (g 5 * g 5)) ≤ 95616 * X := by omega
  clear b s0 h0 s1 h1 s2 h2 s3 h3 s4 h4 s5 h5 s6 h6 s7 h7 s8 h8
  refine ⟨fun i hi => ?_, fun j hj => ?_⟩
  · match i, hi with
    | 0, _ => exact bq_fin (c := 6) (d := 120) (by omega) (by omega) (by omega) (by omega) hW (by omega) hX
    | 1, _ => exact bq_fin (c := 2) (d := 120) (by omega) (by omega) (by omega) (by omega) hW (by omega) hX
    | 2, _ => exact bq_fin (c := 2) (d := 120) (by omega) (by omega) (by omega) (by omega) hW (by omega) hX
    | 3, _ => exact bq_fin (c := 6) (d := 120) (by omega) (by omega) (by omega) (by omega) hW (by omega) hX
    | i + 4, hi => omega
  · match j, hj with
    | 0, _ => exact bq_fin (c := 6) (d := 120) (by omega) (by omega) (by omega) (by omega) hW (by omega) hX
    | 1, _ => exact bq_fin (c := 6) (d := 24) (by omega) (by omega) (by omega) (by omega) hW (by omega) hX
    | 2, _ => exact bq_fin (c := 6) (d := 12) (by omega) (by omega) (by omega) (by omega) hW (by omega) hX
    | 3, _ => exact bq_fin (c := 6) (d := 12) (by omega) (by omega) (by omega) (by omega) hW (by omega) hX
    | 4, _ => exact bq_fin (c := 6) (d := 24) (by omega) (by omega) (by omega) (by omega) hW (by omega) hX
    | 5, _ => exact bq_fin (c := 6) (d := 120) (by omega) (by omega) (by omega) (by omega) hW (by omega) hX
    | j + 6, hj => omega
theorem bq_3_6 (f g : Nat → Int) (hf : ∀ i, 3 < i → f i = 0) (hg : ∀ i, 6 < i → g i = 0) {X : Int} (hX : 0 ≤ X) (h : ∀ k, sm (fun i => f i * g (k - i)) (k + 1) * sm (fun i => f i * g (k - i)) (k + 1) ≤ X) : (∀ i, i ≤ 3 → (f i * g 6) * (f i * g 6) ≤ 9604 * X) ∧ (∀ j, j ≤ 6 → (f 3 * g j) * (f 3 * g j) ≤ 9604 * X) := by
  have b := bo_3_6 f g
  have s0 : sm (fun i => f i * g (0 - i)) (0 + 1) = f 0 * g 0 := by
    simp only [sm]
    grind
  have h0 := h 0
  rw [s0] at h0
  have s1 : sm (fun i => f i * g (1 - i)) (1 + 1) = f 0 * g 1 + f 1 * g 0 := by
    simp only [sm]
    grind
  have h1 := h 1
  rw [s1] at h1
  have s2 : sm (fun i => f i * g (2 - i)) (2 + 1) = f 0 * g 2 + f 1 * g 1 + f 2 * g 0 := by
    simp only [sm]
    grind
  have h2 := h 2
  rw [s2] at h2
  have s3 : sm (fun i => f i * g (3 - i)) (3 + 1) = f 0 * g 3 + f 1 * g 2 + f 2 * g 1 + f 3 * g 0 := by
    simp only [sm]
    grind
  have h3 := h 3
  rw [s3] at h3
  have s4 : sm (fun i => f i * g (4 - i)) (4 + 1) = f 0 * g 4 + f 1 * g 3 + f 2 * g 2 + f 3 * g 1 := by
    simp only [sm, hf 4 (by omega)]
    grind
  have h4 := h 4
  rw [s4] at h4
  have s5 : sm (fun i => f i * g (5 - i)) (5 + 1) = f 0 * g 5 + f 1 * g 4 + f 2 * g 3 + f 3 * g 2 := by
    simp only [sm, hf 4 (by omega), hf 5 (by omega)]
    grind
  have h5 := h 5
  rw [s5] at h5
  have s6 : sm (fun i => f i * g (6 - i)) (6 + 1) = f 0 * g 6 + f 1 * g 5 + f 2 * g 4 + f 3 * g 3 := by
    simp only [sm, hf 4 (by omega), hf 5 (by omega), hf 6 (by omega)]
    grind
  have h6 := h 6
  rw [s6] at h6
  have s7 : sm (fun i => f i * g (7 - i)) (7 + 1) = f 1 * g 6 + f 2 * g 5 + f 3 * g 4 := by
    simp only [sm, hf 4 (by omega), hf 5 (by omega), hf 6 (by omega), hf 7 (by omega), hg 7 (by omega)]
    grind
  have h7 := h 7
  rw [s7] at h7
  have s8 : sm (fun i => f i * g (8 - i)) (8 + 1) = f 2 * g 6 + f 3 * g 5 := by
    simp only [sm, hf 4 (by omega), hf 5 (by omega), hf 6 (by omega), hf 7 (by omega), hf 8 (by omega), hg 7 (by omega), hg 8 (by omega)]
    grind
  have h8 := h 8
  rw [s8] at h8
  have s9 : sm (fun i => f i * g (9 - i)) (9 + 1) = f 3 * g 6 := by
    simp only [sm, hf 4 (by omega), hf 5 (by omega), hf 6 (by omega), hf 7 (by omega), hf 8 (by omega), hf 9 (by omega), hg 7 (by omega), hg 8 (by omega), hg 9 (by omega)]
    grind
  have h9 := h 9
  rw [s9] at h9
  have p0 := sq0 (f 0)
  have p1 := sq0 (f 1)
  have p2 := sq0 (f 2)
  have p3 := sq0 (f 3)
  have q0 := sq0 (g 0)
  have q1 := sq0 (g 1)
  have q2 := sq0 (g 2)
  have q3 := sq0 (g 3)
  have q4 := sq0 (g 4)
  have q5 := sq0 (g 5)
  have q6 := sq0 (g 6)
  have hW : (6 * (f 0 * f 0) + 2 * (f 1 * f 1) + 2 * (f 2 * f 2) + 6 * (f 3 * f 3)) * (720 * (g 0 * g 0) + 120 * (g 1 * g 1) + 48 * (g 2 * g 2) + 36 * (g 3 * g 3) + 48 * (g 4 * g 4) + 120 * (g 5 * g 5) + 720 * (g 6 * g 6)) ≤ 840960 * X := by omega
  clear b s0 h0 s1 h1 s2 h2 s3 h3 s4 h4 s5 h5 s6 h6 s7 h7 s8 h8 s9 h9
  refine ⟨fun i hi => ?_, fun j hj => ?_⟩
  · match i, hi with
    | 0, _ => exact bq_fin (c := 6) (d := 720) (by omega) (by omega) (by omega) (by omega) hW (by omega) hX
    | 1, _ => exact bq_fin (c := 2) (d := 720) (by omega) (by omega) (by omega) (by omega) hW (by omega) hX
    | 2, _ => exact bq_fin (c := 2) (d := 720) (by omega) (by omega) (by omega) (by omega) hW (by omega) hX
    | 3, _ => exact bq_fin (c := 6) (d := 720) (by omega) (by omega) (by omega) (by omega) hW (by omega) hX
    | i + 4, hi => omega
  · match j, hj with
    | 0, _ => exact bq_fin (c := 6) (d := 720) (by omega) (by omega) (by omega) (by omega) hW (by omega) hX
    | 1, _ => exact bq_fin (c := 6) (d := 120) (by omega) (by omega) (by omega) (by omega) hW (by omega) hX
    | 2, _ => exact bq_fin (c := 6) (d := 48) (by omega) (by omega) (by omega) (by omega) hW (by omega) hX
    | 3, _ => exact bq_fin (c := 6) (d := 36) (by omega) (by omega) (by omega) (by omega) hW (by omega) hX
    | 4, _ => exact bq_fin (c := 6) (d := 48) (by omega) (by omega) (by omega) (by omega) hW (by omega) hX
    | 5, _ => exact bq_fin (c := 6) (d := 120) (by omega) (by omega) (by omega) (by omega) hW (by omega) hX
    | 6, _ => exact bq_fin (c := 6) (d := 720) (by omega) (by omega) (by omega) (by omega) hW (by omega) hX
    | j + 7, hj => omega
theorem bq_3_7 (f g : Nat → Int) (hf : ∀ i, 3 < i → f i = 0) (hg : ∀ i, 7 < i → g i = 0) {X : Int} (hX : 0 ≤ X) (h : ∀ k, sm (fun i => f i * g (k - i)) (k + 1) * sm (fun i => f i * g (k - i)) (k + 1) ≤ X) : (∀ i, i ≤ 3 → (f i * g 7) * (f i * g 7) ≤ 9604 * X) ∧ (∀ j, j ≤ 7 → (f 3 * g j) * (f 3 * g j) ≤ 9604 * X) := by
  have b := bo_3_7 f g
  have s0 : sm (fun i => f i * g (0 - i)) (0 + 1) = f 0 * g 0 := by
    simp only [sm]
    grind
  have h0 := h 0
  rw [s0] at h0
  have s1 : sm (fun i => f i * g (1 - i)) (1 + 1) = f 0 * g 1 + f 1 * g 0 := by
    simp only [sm]
    grind
  have h1 := h 1
  rw [s1] at h1
  have s2 : sm (fun i => f i * g (2 - i)) (2 + 1) = f 0 * g 2 + f 1 * g 1 + f 2 * g 0 := by
    simp only [sm]
    grind
  have h2 := h 2
  rw [s2] at h2
  have s3 : sm (fun i => f i * g (3 - i)) (3 + 1) = f 0 * g 3 + f 1 * g 2 + f 2 * g 1 + f 3 * g 0 := by
    simp only [sm]
    grind
  have h3 := h 3
  rw [s3] at h3
  have s4 : sm (fun i => f i * g (4 - i)) (4 + 1) = f 0 * g 4 + f 1 * g 3 + f 2 * g 2 + f 3 * g 1 := by
    simp only [sm, hf 4 (by omega)]
    grind
  have h4 := h 4
  rw [s4] at h4
  have s5 : sm (fun i => f i * g (5 - i)) (5 + 1) = f 0 * g 5 + f 1 * g 4 + f 2 * g 3 + f 3 * g 2 := by
    simp only [sm, hf 4 (by omega), hf 5 (by omega)]
    grind
  have h5 := h 5
  rw [s5] at h5
  have s6 : sm (fun i => f i * g (6 - i)) (6 + 1) = f 0 * g 6 + f 1 * g 5 + f 2 * g 4 + f 3 * g 3 := by
    simp only [sm, hf 4 (by omega), hf 5 (by omega), hf 6 (by omega)]
    grind
  have h6 := h 6
  rw [s6] at h6
  have s7 : sm (fun i => f i * g (7 - i)) (7 + 1) = f 0 * g 7 + f 1 * g 6 + f 2 * g 5 + f 3 * g 4 := by
    simp only [sm, hf 4 (by omega), hf 5 (by omega), hf 6 (by omega), hf 7 (by omega)]
    grind
  have h7 := h 7
  rw [s7] at h7
  have s8 : sm (fun i => f i * g (8 - i)) (8 + 1) = f 1 * g 7 + f 2 * g 6 + f 3 * g 5 := by
    simp only [sm, hf 4 (by omega), hf 5 (by omega), hf 6 (by omega), hf 7 (by omega), hf 8 (by omega), hg 8 (by omega)]
    grind
  have h8 := h 8
  rw [s8] at h8
  have s9 : sm (fun i => f i * g (9 - i)) (9 + 1) = f 2 * g 7 + f 3 * g 6 := by
    simp only [sm, hf 4 (by omega), hf 5 (by omega), hf 6 (by omega), hf 7 (by omega), hf 8 (by omega), hf 9 (by omega), hg 8 (by omega), hg 9 (by omega)]
    grind
  have h9 := h 9
  rw [s9] at h9
  have s10 : sm (fun i => f i * g (10 - i)) (10 + 1) = f 3 * g 7 := by
    simp only [sm, hf 4 (by omega), hf 5 (by omega), hf 6 (by omega), hf 7 (by omega), hf 8 (by omega), hf 9 (by omega), hf 10 (by omega), hg 8 (by omega), hg 9 (by omega), hg 10 (by omega)]
    grind
  have h10 := h 10
  rw [s10] at h10
  have p0 := sq0 (f 0)
  have p1 := sq0 (f 1)
  have p2 := sq0 (f 2)
  have p3 := sq0 (f 3)
  have q0 := sq0 (g 0)
  have q1 := sq0 (g 1)
  have q2 := sq0 (g 2)
  have q3 := sq0 (g 3)
  have q4 := sq0 (g 4)
  have q5 := sq0 (g 5)
  have q6 := sq0 (g 6)
  have q7 := sq0 (g 7)
  have hW : (6 * (f 0 * f 0) + 2 * (f 1 * f 1) + 2 * (f 2 * f 2) + 6 * (f 3 * f 3)) * (5040 * (g 0 * g 0) + 720 * (g 1 * g 1) + 240 * (g 2 * g 2) + 144 * (g 3 * g 3) + 144 * (g 4 * g 4) + 240 * (g 5 * g 5) + 720 * (g 6 * g 6) + 5040 * (g 7 * g 7)) ≤ 8254080 * X := by omega
  clear b s0 h0 s1 h1 s2 h2 s3 h3 s4 h4 s5 h5 s6 h6 s7 h7 s8 h8 s9 h9 s10 h10
  refine ⟨fun i hi => ?_, fun j hj => ?_⟩
  · match i, hi with
    | 0, _ => exact bq_fin (c := 6) (d := 5040) (by omega) (by omega) (by omega) (by omega) hW (by omega) hX
    | 1, _ => exact bq_fin (c := 2) (d := 5040) (by omega) (by omega) (by omega) (by omega) hW (by omega) hX
    | 2, _ => exact bq_fin (c := 2) (d := 5040) (by omega) (by omega) (by omega) (by omega) hW (by omega) hX
    | 3, _ => exact bq_fin (c := 6) (d := 5040) (by omega) (by omega) (by omega) (by omega) hW (by omega) hX
    | i + 4, hi => omega
  · match j, hj with
    | 0, _ => exact bq_fin (c := 6) (d := 5040) (by omega) (by omega) (by omega) (by omega) hW (by omega) hX
    | 1, _ => exact bq_fin (c := 6) (d := 720) (by omega) (by omega) (by omega) (by omega) hW (by omega) hX
    | 2, _ => exact bq_fin (c := 6) (d := 240) (by omega) (by omega) (by omega) (by omega) hW (by omega) hX
    | 3, _ => exact bq_fin (c := 6) (d := 144) (by omega) (by omega) (by omega) (by omega) hW (by omega) hX
    | 4, _ => exact bq_fin (c := 6) (d := 144) (by omega) (by omega) (by omega) (by omega) hW (by omega) hX
    | 5, _ => exact bq_fin (c := 6) (d := 240) (by omega) (by omega) (by omega) (by omega) hW (by omega) hX
    | 6, _ => exact bq_fin (c := 6) (d := 720) (by omega) (by omega) (by omega) (by omega) hW (by omega) hX
    | 7, _ => exact bq_fin (c := 6) (d := 5040) (by omega) (by omega) (by omega) (by omega) hW (by omega) hX
    | j + 8, hj => omega
theorem bq_4_4 (f g : Nat → Int) (hf : ∀ i, 4 < i → f i = 0) (hg : ∀ i, 4 < i → g i = 0) {X : Int} (hX : 0 ≤ X) (h : ∀ k, sm (fun i => f i * g (k - i)) (k + 1) * sm (fun i => f i * g (k - i)) (k + 1) ≤ X) : (∀ i, i ≤ 4 → (f i * g 4) * (f i * g 4) ≤ 9604 * X) ∧ (∀ j, j ≤ 4 → (f 4 * g j) * (f 4 * g j) ≤ 9604 * X) := by
  have b := bo_4_4 f g
  have s0 : sm (fun i => f i * g (0 - i)) (0 + 1) = f 0 * g 0 := by
    simp only [sm]
    grind
  have h0 := h 0
  rw [s0] at h0
  have s1 : sm (fun i => f i * g (1 - i)) (1 + 1) = f 0 * g 1 + f 1 * g 0 := by
    simp only [sm]
    grind
  have h1 := h 1
  rw [s1] at h1
  have s2 : sm (fun i => f i * g (2 - i)) (2 + 1) = f 0 * g 2 + f 1 * g 1 + f 2 * g 0 := by
    simp only [sm]
    grind
  have h2 := h 2
  rw [s2] at h2
  have s3 : sm (fun i => f i * g (3 - i)) (3 + 1) = f 0 * g 3 + f 1 * g 2 + f 2 * g 1 + f 3 * g 0 := by
    simp only [sm]
    grind
  have h3 := h 3
  rw [s3] at h3
  have s4 : sm (fun i => f i * g (4 - i)) (4 + 1) = f 0 * g 4 + f 1 * g 3 + f 2 * g 2 + f 3 * g 1 + f 4 * g 0 := by
    simp only [sm]
    grind
  have h4 := h 4
  rw [s4] at h4
  have s5 : sm (fun i => f i * g (5 - i)) (5 + 1) = f 1 * g 4 + f 2 * g 3 + f 3 * g 2 + f 4 * g 1 := by
    simp only [sm, hf 5 (by omega), hg 5 (by omega)]
    grind
  have h5 := h 5
  rw [s5] at h5
  have s6 : sm (fun i => f i * g (6 - i)) (6 + 1) = f 2 * g 4 + f 3 * g 3 + f 4 * g 2 := by
    simp only [sm, hf 5 (by omega), hf 6 (by omega), hg 5 (by omega), hg 6 (by omega)]
    grind
  have h6 := h 6
  rw [s6] at h6
  have s7 : sm (fun i => f i * g (7 - i)) (7 + 1) = f 3 * g 4 + f 4 * g 3 := by
    simp only [sm, hf 5 (by omega), hf 6 (by omega), hf 7 (by omega), hg 5 (by omega), hg 6 (by omega), hg 7 (by omega)]
    grind
  have h7 := h 7
  rw [s7] at h7
  have s8 : sm (fun i => f i * g (8 - i)) (8 + 1) = f 4 * g 4 := by
    simp only [sm, hf 5 (by omega), hf 6 (by omega), hf 7 (by omega), hf 8 (by omega), hg 5 (by omega), hg 6 (by omega), hg 7 (by omega), hg 8 (by omega)]
    grind
  have h8 := h 8
  rw [s8] at h8
  have p0 := sq0 (f 0)
  have p1 := sq0 (f 1)
  have p2 := sq0 (f 2)
  have p3 := sq0 (f 3)
  have p4 := sq0 (f 4)
  have q0 := sq0 (g 0)
  have q1 := sq0 (g 1)
  have q2 := sq0 (g 2)
  have q3 := sq0 (g 3)
  have q4 := sq0 (g 4)
  have hW : (24 * (f 0 * f 0) + 6 * (f 1 * f 1) + 4 * (f 2 * f 2) + 6 * (f 3 * f 3) + 24 * (f 4 * f 4)) * (24 * (g 0 * g 0) + 6 * (g 1 * g 1) + 4 * (g 2 * g 2) + 6 * (g 3 * g 3) + 24 * (g 4 * g 4)) ≤ 95616 * X := by omega
  clear b s0 h0 s1 h1 s2 h2 s3 h3 s4 h4 s5 h5 s6 h6 s7 h7 s8 h8
  refine ⟨fun i hi => ?_, fun j hj => ?_⟩
  · match i, hi with
    | 0, _ => exact bq_fin (c := 24) (d := 24) (by omega) (by omega) (by omega) (by omega) hW (by omega) hX
    | 1, _ => exact bq_fin (c := 6) (d := 24) (by omega) (by omega) (by omega) (by omega) hW (by omega) hX
    | 2, _ => exact bq_fin (c := 4) (d := 24) (by omega) (by omega) (by omega) (by omega) hW (by omega) hX
    | 3, _ => exact bq_fin (c := 6) (d := 24) (by omega) (by omega) (by omega) (by omega) hW (by omega) hX
    | 4, _ => exact bq_fin (c := 24) (d := 24) (by omega) (by omega) (by omega) (by omega) hW (by omega) hX
    | i + 5, hi => omega
  · match j, hj with
    | 0, _ => exact bq_fin (c := 24) (d := 24) (by omega) (by omega) (by omega) (by omega) hW (by omega) hX
    | 1, _ => exact bq_fin (c := 24) (d := 6) (by omega) (by omega) (by omega) (by omega) hW (by omega) hX
    | 2, _ => exact bq_fin (c := 24) (d := 4) (by omega) (by omega) (by omega) (by omega) hW (by omega) hX
    | 3, _ => exact bq_fin (c := 24) (d := 6) (by omega) (by omega) (by omega) (by omega) hW (by omega) hX
    | 4, _ => exact bq_fin (c := 24) (d := 24) (by omega) (by omega) (by omega) (by omega) hW (by omega) hX
    | j + 5, hj => omega
theorem bq_4_5 (f g : Nat → Int) (hf : ∀ i, 4 < i → f i = 0) (hg : ∀ i, 5 < i → g i = 0) {X : Int} (hX : 0 ≤ X) (h : ∀ k, sm (fun i => f i * g (k - i)) (k + 1) * sm (fun i => f i * g (k - i)) (k + 1) ≤ X) : (∀ i, i ≤ 4 → (f i * g 5) * (f i * g 5) ≤ 9604 * X) ∧ (∀ j, j ≤ 5 → (f 4 * g j) * (f 4 * g j) ≤ 9604 * X) := by
  have b := bo_4_5 f g
  have s0 : sm (fun i => f i * g (0 - i)) (0 + 1) = f 0 * g 0 := by
    simp only [sm]
    grind
  have h0 := h 0
  rw [s0] at h0
  have s1 : sm (fun i => f i * g (1 - i)) (1 + 1) = f 0 * g 1 + f 1 * g 0 := by
    simp only [sm]
    grind
  have h1 := h 1
  rw [s1] at h1
  have s2 : sm (fun i => f i * g (2 - i)) (2 + 1) = f 0 * g 2 + f 1 * g 1 + f 2 * g 0 := by
    simp only [sm]
    grind
  have h2 := h 2
  rw [s2] at h2
  have s3 : sm (fun i => f i * g (3 - i)) (3 + 1) = f 0 * g 3 + f 1 * g 2 + f 2 * g 1 + f 3 * g 0 := by
    simp only [sm]
    grind
  have h3 := h 3
  rw [s3] at h3
  have s4 : sm (fun i => f i * g (4 - i)) (4 + 1) = f 0 * g 4 + f 1 * g 3 + f 2 * g 2 + f 3 * g 1 + f 4 * g 0 := by
    simp only [sm]
    grind
  have h4 := h 4
  rw [s4] at h4
  have s5 : sm (fun i => f i * g (5 - i)) (5 + 1) = f 0 * g 5 + f 1 * g 4 + f 2 * g 3 + f 3 * g 2 + f 4 * g 1 := by
    simp only [sm, hf 5 (by omega)]
    grind
  have h5 := h 5
  rw [s5] at h5
  have s6 : sm (fun i => f i * g (6 - i)) (6 + 1) = f 1 * g 5 + f 2 * g 4 + f 3 * g 3 + f 4 * g 2 := by
    simp only [sm, hf 5 (by omega), hf 6 (by omega), hg 6 (by omega)]
    grind
  have h6 := h 6
  rw [s6] at h6
  have s7 : sm (fun i => f i * g (7 - i)) (7 + 1) = f 2 * g 5 + f 3 * g 4 + f 4 * g 3 := by
    simp only [sm, hf 5 (by omega), hf 6 (by omega), hf 7 (by omega), hg 6 (by omega), hg 7 (by omega)]
    grind
  have h7 := h 7
  rw [s7] at h7
  have s8 : sm (fun i => f i * g (8 - i)) (8 + 1) = f 3 * g 5 + f 4 * g 4 := by
    simp only [sm, hf 5 (by omega), hf 6 (by omega), hf 7 (by omega), hf 8 (by omega), hg 6 (by omega), hg 7 (by omega), hg 8 (by omega)]
    grind
  have h8 := h 8
  rw [s8] at h8
  have s9 : sm (fun i => f i * g (9 - i)) (9 + 1) = f 4 * g 5 := by
    simp only [sm, hf 5 (by omega), hf 6 (by omega), hf 7 (by omega), hf 8 (by omega), hf 9 (by omega), hg 6 (by omega), hg 7 (by omega), hg 8 (by omega), hg 9 (by omega)]
    grind
  have h9 := h 9
  rw [s9] at h9
  have p0 := sq0 (f 0)
  have p1 := sq0 (f 1)
  have p2 := sq0 (f 2)
  have p3 := sq0 (f 3)
  have p4 := sq0 (f 4)
  have q0 := sq0 (g 0)
  have q1 := sq0 (g 1)
  have q2 := sq0 (g 2)
  have q3 := sq0 (g 3)
  have q4 := sq0 (g 4)
  have q5 := sq0 (g 5)
  have hW : (24 * (f 0 * f 0) + 6 * (f 1 * f 1) + 4 * (f 2 * f 2) + 6 * (f 3 * f 3) + 24 * (f 4 * f 4)) * (120 * (g 0 * g 0) + 24 * (g 1 * g 1) + 12 * (g 2 * g 2) + 12 * (g 3 * g 3) + 24 * (g 4 * g 4) + 120 * (g 5 * g 5)) ≤ 840960 * X := by omega
  clear b s0 h0 s1 h1 s2 h2 s3 h3 s4 h4 s5 h5 s6 h6 s7 h7 s8 h8 s9 h9
  refine ⟨fun i hi => ?_, fun j hj => ?_⟩
  · match i, hi with
    | 0, _ => exact bq_fin (c := 24) (d := 120) (by omega) (by omega) (by omega) (by omega) hW (by omega) hX
    | 1, _ => exact bq_fin (c := 6) (d := 120) (by omega) (by omega) (by omega) (by omega) hW (by omega) hX
    | 2, _ => exact bq_fin (c := 4) (d := 120) (by omega) (by omega) (by omega) (by omega) hW (by omega) hX
    | 3, _ => exact bq_fin (c := 6) (d := 120) (by omega) (by omega) (by omega) (by omega) hW (by omega) hX
    | 4, _ => exact bq_fin (c := 24) (d := 120) (by omega) (by omega) (by omega) (by omega) hW (by omega) hX
    | i + 5, hi => omega
  · match j, hj with
    | 0, _ => exact bq_fin (c := 24) (d := 120) (by omega) (by omega) (by omega) (by omega) hW (by omega) hX
    | 1, _ => exact bq_fin (c := 24) (d := 24) (by omega) (by omega) (by omega) (by omega) hW (by omega) hX
    | 2, _ => exact bq_fin (c := 24) (d := 12) (by omega) (by omega) (by omega) (by omega) hW (by omega) hX
    | 3, _ => exact bq_fin (c := 24) (d := 12) (by omega) (by omega) (by omega) (by omega) hW (by omega) hX
    | 4, _ => exact bq_fin (c := 24) (d := 24) (by omega) (by omega) (by omega) (by omega) hW (by omega) hX
    | 5, _ => exact bq_fin (c := 24) (d := 120) (by omega) (by omega) (by omega) (by omega) hW (by omega) hX
    | j + 6, hj => omega
theorem bq_4_6 (f g : Nat → Int) (hf : ∀ i, 4 < i → f i = 0) (hg : ∀ i, 6 < i → g i = 0) {X : Int} (hX : 0 ≤ X) (h : ∀ k, sm (fun i => f i * g (k - i)) (k + 1) * sm (fun i => f i * g (k - i)) (k + 1) ≤ X) : (∀ i, i ≤ 4 → (f i * g 6) * (f i * g 6) ≤ 9604 * X) ∧ (∀ j, j ≤ 6 → (f 4 * g j) * (f 4 * g j) ≤ 9604 * X) := by
  have b := bo_4_6 f g
  have s0 : sm (fun i => f i * g (0 - i)) (0 + 1) = f 0 * g 0 := by
    simp only [sm]
    grind
  have h0 := h 0
  rw [s0] at h0
  have s1 : sm (fun i => f i * g (1 - i)) (1 + 1) = f 0 * g 1 + f 1 * g 0 := by
    simp only [sm]
    grind
  have h1 := h 1
  rw [s1] at h1
  have s2 : sm (fun i => f i * g (2 - i)) (2 + 1) = f 0 * g 2 + f 1 * g 1 + f 2 * g 0 := by
    simp only [sm]
    grind
  have h2 := h 2
  rw [s2] at h2
  have s3 : sm (fun i => f i * g (3 - i)) (3 + 1) = f 0 * g 3 + f 1 * g 2 + f 2 * g 1 + f 3 * g 0 := by
    simp only [sm]
    grind
  have h3 := h 3
  rw [s3] at h3
  have s4 : sm (fun i => f i * g (4 - i)) (4 + 1) = f 0 * g 4 + f 1 * g 3 + f 2 * g 2 + f 3 * g 1 + f 4 * g 0 := by
    simp only [sm]
    grind
  have h4 := h 4
  rw [s4] at h4
  have s5 : sm (fun i => f i * g (5 - i)) (5 + 1) = f 0 * g 5 + f 1 * g 4 + f 2 * g 3 + f 3 * g 2 + f 4 * g 1 := by
    simp only [sm, hf 5 (by omega)]
    grind
  have h5 := h 5
  rw [s5] at h5
  have s6 : sm (fun i => f i * g (6 - i)) (6 + 1) = f 0 * g 6 + f 1 * g 5 + f 2 * g 4 + f 3 * g 3 + f 4 * g 2 := by
    simp only [sm, hf 5 (by omega), hf 6 (by omega)]
    grind
  have h6 := h 6
  rw [s6] at h6
  have s7 : sm (fun i => f i * g (7 - i)) (7 + 1) = f 1 * g 6 + f 2 * g 5 + f 3 * g 4 + f 4 * g 3 := by
    simp only [sm, hf 5 (by omega), hf 6 (by omega), hf 7 (by omega), hg 7 (by omega)]
    grind
  have h7 := h 7
  rw [s7] at h7
  have s8 : sm (fun i => f i * g (8 - i)) (8 + 1) = f 2 * g 6 + f 3 * g 5 + f 4 * g 4 := by
    simp only [sm, hf 5 (by omega), hf 6 (by omega), hf 7 (by omega), hf 8 (by omega), hg 7 (by omega), hg 8 (by omega)]
    grind
  have h8 := h 8
  rw [s8] at h8
  have s9 : sm (fun i => f i * g (9 - i)) (9 + 1) = f 3 * g 6 + f 4 * g 5 := by
    simp only [sm, hf 5 (by omega), hf 6 (by omega), hf 7 (by omega), hf 8 (by omega), hf 9 (by omega), hg 7 (by omega), hg 8 (by omega), hg 9 (by omega)]
    grind
  have h9 := h 9
  rw [s9] at h9
  have s10 : sm (fun i => f i * g (10 - i)) (10 + 1) = f 4 * g 6 := by
    simp only [sm, hf 5 (by omega), hf 6 (by omega), hf 7 (by omega), hf 8 (by omega), hf 9 (by omega), hf 10 (by omega), hg 7 (by omega), hg 8 (by omega), hg 9 (by omega), hg 10 (by omega)]
    grind
  have h10 := h 10
  rw [s10] at h10
  have p0 := sq0 (f 0)
  have p1 := sq0 (f 1)
  have p2 := sq0 (f 2)
  have p3 := sq0 (f 3)
  have p4 := sq0 (f 4)
  have q0 := sq0 (g 0)
  have q1 := sq0 (g 1)
  have q2 := sq0 (g 2)
  have q3 := sq0 (g 3)
  have q4 := sq0 (g 4)
  have q5 := sq0 (g 5)
  have q6 := sq0 (g 6)
  have hW : (24 * (f 0 * f 0) + 6 * (f 1 * f 1) + 4 * (f 2 * f 2) + 6 * (f 3 * f 3) + 24 * (f 4 * f 4)) * (720 * (g 0 * g 0) + 120 * (g 1 * g 1) + 48 * (g 2 * g 2) + 36 * (g 3 * g 3) + 48 * (g 4 * g 4) + 120 * (g 5 * g 5) + 720 * (g 6 * g 6)) ≤ 8254080 * X := by omega
  clear b s0 h0 s1 h1 s2 h2 s3 h3 s4 h4 s5 h5 s6 h6 s7 h7 s8 h8 s9 h9 s10 h10
  refine ⟨fun i hi => ?_, fun j hj => ?_⟩
  · match i, hi with
    | 0, _ => exact bq_fin (c := 24) (d := 720) (by omega) (by omega) (by omega) (by omega) hW (by omega) hX
    | 1, _ => exact bq_fin (c := 6) (d := 720) (by omega) (by omega) (by omega) (by omega) hW (by omega) hX
    | 2, _ => exact bq_fin (c := 4) (d := 720) (by omega) (by omega) (by omega) (by omega) hW (by omega) hX
    | 3, _ => exact bq_fin (c := 6) (d := 720) (by omega) (by omega) (by omega) (by omega) hW (by omega) hX
    | 4, _ => exact bq_fin (c := 24) (d := 720) (by omega) (by omega) (by omega) (by omega) hW (by omega) hX
    | i + 5, hi => omega
  · match j, hj with
    | 0, _ => exact bq_fin (c := 24) (d := 720) (by omega) (by omega) (by omega) (by omega) hW (by omega) hX
    | 1, _ => exact bq_fin (c := 24) (d := 120) (by omega) (by omega) (by omega) (by omega) hW (by omega) hX
    | 2, _ => exact bq_fin (c := 24) (d := 48) (by omega) (by omega) (by omega) (by omega) hW (by omega) hX
    | 3, _ => exact bq_fin (c := 24) (d := 36) (by omega) (by omega) (by omega) (by omega) hW (by omega) hX
    | 4, _ => exact bq_fin (c := 24) (d := 48) (by omega) (by omega) (by omega) (by omega) hW (by omega) hX
    | 5, _ => exact bq_fin (c := 24) (d := 120) (by omega) (by omega) (by omega) (by omega) hW (by omega) hX
    | 6, _ => exact bq_fin (c := 24) (d := 720) (by omega) (by omega) (by omega) (by omega) hW (by omega) hX
    | j + 7, hj => omega
theorem bq_5_5 (f g : Nat → Int) (hf : ∀ i, 5 < i → f i = 0) (hg : ∀ i, 5 < i → g i = 0) {X : Int} (hX : 0 ≤ X) (h : ∀ k, sm (fun i => f i * g (k - i)) (k + 1) * sm (fun i => f i * g (k - i)) (k + 1) ≤ X) : (∀ i, i ≤ 5 → (f i * g 5) * (f i * g 5) ≤ 9604 * X) ∧ (∀ j, j ≤ 5 → (f 5 * g j) * (f 5 * g j) ≤ 9604 * X) := by
  have b := bo_5_5 f g
  have s0 : sm (fun i => f i * g (0 - i)) (0 + 1) = f 0 * g 0 := by
    simp only [sm]
    grind
  have h0 := h 0
  rw [s0] at h0
  have s1 : sm (fun i => f i * g (1 - i)) (1 + 1) = f 0 * g 1 + f 1 * g 0 := by
    simp only [sm]
    grind
  have h1 := h 1
  rw [s1] at h1
  have s2 : sm (fun i => f i * g (2 - i)) (2 + 1) = f 0 * g 2 + f 1 * g 1 + f 2 * g 0 := by
    simp only [sm]
    grind
  have h2 := h 2
  rw [s2] at h2
  have s3 : sm (fun i => f i * g (3 - i)) (3 + 1) = f 0 * g 3 + f 1 * g 2 + f 2 * g 1 + f 3 * g 0 := by
    simp only [sm]
    grind
  have h3 := h 3
  rw [s3] at h3
  have s4 : sm (fun i => f i * g (4 - i)) (4 + 1) = f 0 * g 4 + f 1 * g 3 + f 2 * g 2 + f 3 * g 1 + f 4 * g 0 := by
    simp only [sm]
    grind
  have h4 := h 4
  rw [s4] at h4
  have s5 : sm (fun i => f i * g (5 - i)) (5 + 1) = f 0 * g 5 + f 1 * g 4 + f 2 * g 3 + f 3 * g 2 + f 4 * g 1 + f 5 * g 0 := by
    simp only [sm]
    grind
  have h5 := h 5
  rw [s5] at h5
  have s6 : sm (fun i => f i * g (6 - i)) (6 + 1) = f 1 * g 5 + f 2 * g 4 + f 3 * g 3 + f 4 * g 2 + f 5 * g 1 := by
    simp only [sm, hf 6 (by omega), hg 6 (by omega)]
    grind
  have h6 := h 6
  rw [s6] at h6
  have s7 : sm (fun i => f i * g (7 - i)) (7 + 1) = f 2 * g 5 + f 3 * g 4 + f 4 * g 3 + f 5 * g 2 := by
    simp only [sm, hf 6 (by omega), hf 7 (by omega), hg 6 (by omega), hg 7 (by omega)]
    grind
  have h7 := h 7
  rw [s7] at h7
  have s8 : sm (fun i => f i * g (8 - i)) (8 + 1) = f 3 * g 5 + f 4 * g 4 + f 5 * g 3 := by
    simp only [sm, hf 6 (by omega), hf 7 (by omega), hf 8 (by omega), hg 6 (by omega), hg 7 (by omega), hg 8 (by omega)]
    grind
  have h8 := h 8
  rw [s8] at h8
  have s9 : sm (fun i => f i * g (9 - i)) (9 + 1) = f 4 * g 5 + f 5 * g 4 := by
    simp only [sm, hf 6 (by omega), hf 7 (by omega), hf 8 (by omega), hf 9 (by omega), hg 6 (by omega), hg 7 (by omega), hg 8 (by omega), hg 9 (by omega)]
    grind
  have h9 := h 9
  rw [s9] at h9
  have s10 : sm (fun i => f i * g (10 - i)) (10 + 1) = f 5 * g 5 := by
    simp only [sm, hf 6 (by omega), hf 7 (by omega), hf 8 (by omega), hf 9 (by omega), hf 10 (by omega), hg 6 (by omega), hg 7 (by omega), hg 8 (by omega), hg 9 (by omega), hg 10 (by omega)]
    grind
  have h10 := h 10
  rw [s10] at h10
  have p0 := sq0 (f 0)
  have p1 := sq0 (f 1)
  have p2 := sq0 (f 2)
  have p3 := sq0 (f 3)
  have p4 := sq0 (f 4)
  have p5 := sq0 (f 5)
  have q0 := sq0 (g 0)
  have q1 := sq0 (g 1)
  have q2 := sq0 (g 2)
  have q3 := sq0 (g 3)
  have q4 := sq0 (g 4)
  have q5 := sq0 (g 5)
  have hW : (120 * (f 0 * f 0) + 24 * (f 1 * f 1) + 12 * (f 2 * f 2) + 12 * (f 3 * f 3) + 24 * (f 4 * f 4) + 120 * (f 5 * f 5)) * (120 * (g 0 * g 0) + 24 * (g 1 * g 1) + 12 * (g 2 * g 2) + 12 * (g 3 * g 3) + 24 * (g 4 * g 4) + 120 * (g 5 * g 5)) ≤ 8254080 * X := by omega
  clear b s0 h0 s1 h1 s2 h2 s3 h3 s4 h4 s5 h5 s6 h6 s7 h7 s8 h8 s9 h9 s10 h10
  refine ⟨fun i hi => ?_, fun j hj => ?_⟩
  · match i, hi with
    | 0, _ => exact bq_fin (c := 120) (d := 120) (by omega) (by omega) (by omega) (by omega) hW (by omega) hX
    | 1, _ => exact bq_fin (c := 24) (d := 120) (by omega) (by omega) (by omega) (by omega) hW (by omega) hX
    | 2, _ => exact bq_fin (c := 12) (d := 120) (by omega) (by omega) (by omega) (by omega) hW (by omega) hX
    | 3, _ => exact bq_fin (c := 12) (d := 120) (by omega) (by omega) (by omega) (by omega) hW (by omega) hX
    | 4, _ => exact bq_fin (c := 24) (d := 120) (by omega) (by omega) (by omega) (by omega) hW (by omega) hX
    | 5, _ => exact bq_fin (c := 120) (d := 120) (by omega) (by omega) (by omega) (by omega) hW (by omega) hX
    | i + 6, hi => omega
  · match j, hj with
    | 0, _ => exact bq_fin (c := 120) (d := 120) (by omega) (by omega) (by omega) (by omega) hW (by omega) hX
    | 1, _ => exact bq_fin (c := 120) (d := 24) (by omega) (by omega) (by omega) (by omega) hW (by omega) hX
    | 2, _ => exact bq_fin (c := 120) (d := 12) (by omega) (by omega) (by omega) (by omega) hW (by omega) hX
    | 3, _ => exact bq_fin (c := 120) (d := 12) (by omega) (by omega) (by omega) (by omega) hW (by omega) hX
    | 4, _ => exact bq_fin (c := 120) (d := 24) (by omega) (by omega) (by omega) (by omega) hW (by omega) hX
    | 5, _ => exact bq_fin (c := 120) (d := 120) (by omega) (by omega) (by omega) (by omega) hW (by omega) hX
    | j + 6, hj => omega
end MBq
