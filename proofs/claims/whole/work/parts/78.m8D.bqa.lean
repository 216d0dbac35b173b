section MBqa
theorem bqA (m n : Nat) (h1 : 1 ≤ m) (hmn : m ≤ n) (h10 : m + n ≤ 10) (f g : Nat → Int) (hf : ∀ i, m < i → f i = 0) (hg : ∀ i, n < i → g i = 0) {X : Int} (hX : 0 ≤ X) (h : ∀ k, sm (fun i => f i * g (k - i)) (k + 1) * sm (fun i => f i * g (k - i)) (k + 1) ≤ X) : (∀ i, i ≤ m → (f i * g n) * (f i * g n) ≤ 9604 * X) ∧ (∀ j, j ≤ n → (f m * g j) * (f m * g j) ≤ 9604 * X) := by
  have hc : m = 1 ∨ m = 2 ∨ m = 3 ∨ m = 4 ∨ m = 5 := by omega
  rcases hc with rfl | rfl | rfl | rfl | rfl
  · have hc : n = 1 ∨ n = 2 ∨ n = 3 ∨ n = 4 ∨ n = 5 ∨ n = 6 ∨ n = 7 ∨ n = 8 ∨ n = 9 := by omega
    rcases hc with rfl | rfl | rfl | rfl | rfl | rfl | rfl | rfl | rfl
    · exact bq_1_1 f g hf hg hX h
    · exact bq_1_2 f g hf hg hX h
    · exact bq_1_3 f g hf hg hX h
    · exact bq_1_4 f g hf hg hX h
    · exact bq_1_5 f g hf hg hX h
    · exact bq_1_6 f g hf hg hX h
    · exact bq_1_7 f g hf hg hX h
    · exact bq_1_8 f g hf hg hX h
    · exact bq_1_9 f g hf hg hX h
  · have hc : n = 2 ∨ n = 3 ∨ n = 4 ∨ n = 5 ∨ n = 6 ∨ n = 7 ∨ n = 8 := by omega
    rcases hc with rfl | rfl | rfl | rfl | rfl | rfl | rfl
    · exact bq_2_2 f g hf hg hX h
    · exact bq_2_3 f g hf hg hX h
    · exact bq_2_4 f g hf hg hX h
    · exact bq_2_5 f g hf hg hX h
    · exact bq_2_6 f g hf hg hX h
    · exact bq_2_7 f g hf hg hX h
    · exact bq_2_8 f g hf hg hX h
  · have hc : n = 3 ∨ n = 4 ∨ n = 5 ∨ n = 6 ∨ n = 7 := by omega
    rcases hc with rfl | rfl | rfl | rfl | rfl
    · exact bq_3_3 f g hf hg hX h
    · exact bq_3_4 f g hf hg hX h
    · exact bq_3_5 f g hf hg hX h
    · exact bq_3_6 f g hf hg hX h
    · exact bq_3_7 f g hf hg hX h
  · have hc : n = 4 ∨ n = 5 ∨ n = 6 := by omega
    rcases hc with rfl | rfl | rfl
    · exact bq_4_4 f g hf hg hX h
    · exact bq_4_5 f g hf hg hX h
    · exact bq_4_6 f g hf hg hX h
  · obtain rfl : n = 5 := by omega
    exact bq_5_5 f g hf hg hX h
theorem sq_abs {x X : Int} (hX : 0 ≤ X) (h : x * x ≤ 9604 * (X * X)) : nz x ≤ 98 * X := by
  rcases Int.lt_or_le (98 * X) (nz x) with q | q
  · exfalso
    have h1 : nz x * nz x = x * x := by
      unfold nz
      rcases Int.le_total 0 x with z | z
      · rw [show ((x.natAbs : Nat) : Int) = x by omega]
      · rw [show ((x.natAbs : Nat) : Int) = -x by omega]; grind
    have h2 : (98 * X + 1) * (98 * X + 1) ≤ nz x * nz x := Int.mul_le_mul (by omega) (by omega) (by omega) (by omega)
    have h3 : (98 * X + 1) * (98 * X + 1) = 9604 * (X * X) + 196 * X + 1 := by grind
    omega
  · exact q
theorem abs_sq {x X : Int} (h : nz x ≤ X) : x * x ≤ X * X := by
  have h0 := nz_nn x
  have h1 : nz x * nz x = x * x := by
    unfold nz
    rcases Int.le_total 0 x with z | z
    · rw [show ((x.natAbs : Nat) : Int) = x by omega]
    · rw [show ((x.natAbs : Nat) : Int) = -x by omega]; grind
  rw [← h1]
  exact Int.mul_le_mul h h h0 (by omega)
theorem bomb1 (m n : Nat) (h10 : m + n ≤ 10) (f g : Nat → Int) (hf : ∀ i, m < i → f i = 0) (hg : ∀ i, n < i → g i = 0) {X : Int} (hX : 0 ≤ X) (h : ∀ k, nz (sm (fun i => f i * g (k - i)) (k + 1)) ≤ X) : ∀ i, i ≤ m → nz (f i * g n) ≤ 98 * X := by
  intro i hi
  have hcm : ∀ k, sm (fun i => g i * f (k - i)) (k + 1) = sm (fun i => f i * g (k - i)) (k + 1) := fun k => cmul_comm g f k
  rcases Nat.eq_zero_or_pos m with h1 | h1
  · have h2 := h n
    rw [sm_one (k := 0) (by omega) (fun j hj hne => by rw [hf j (by omega)]; grind), Nat.sub_zero] at h2
    rw [show i = 0 by omega]; omega
  · rcases Nat.eq_zero_or_pos n with h2 | h2
    · have h3 := h i
      rw [sm_one (k := i) (by omega) (fun j hj hne => by rw [hg (i - j) (by omega)]; grind), Nat.sub_self] at h3
      rw [h2]; omega
    · rcases Nat.le_total m n with h3 | h3
      · exact sq_abs hX ((bqA m n h1 h3 h10 f g hf hg (sq0 X) (fun k => abs_sq (h k))).1 i hi)
      · have h4 := (bqA n m h2 h3 (by omega) g f hg hf (sq0 X) (fun k => by rw [hcm]; exact abs_sq (h k))).2 i hi
        rw [show f i * g n = g n * f i by grind]
        exact sq_abs hX h4
/-- the coefficients of a divisor, brought to the head of the whole -/
theorem bomb {S : Type} [Lean.Grind.CommRing S] {co : S → Nat → Int} (P : isPol co) {f g : S} (hd : nu co f + nu co g ≤ 12) (hg : g ≠ 0) {X : Int} (hX : 0 ≤ X) (h : ∀ k, nz (co (f * g) k) ≤ X) (i : Nat) : nz (co f i * co g (nu co g - 1)) ≤ 98 * X := by
  have hg0 : nu co g ≠ 0 := fun q => hg ((nu_zero P).mp q)
  rcases Nat.lt_or_ge i (nu co f) with q | q
  · exact bomb1 (nu co f - 1) (nu co g - 1) (by omega) (co f) (co g) (fun j hj => nu_hi P f (by omega)) (fun j hj => nu_hi P g (by omega)) hX (fun k => by have := h k; rw [p_mul P] at this; exact this) i (by omega)
  · rw [nu_hi P f q, show (0 : Int) * co g (nu co g - 1) = 0 by grind]
    show (0 : Int) ≤ _
    omega
end MBqa
