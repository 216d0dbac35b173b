/-! every call keeps the invariant -/
section MStep
theorem st_all {n : Nat} (hn : 18446744073709551616 ≤ n) : ∀ (k : Nat) (x1 x2 x3 : Int) (M : MI), k < 16 → inI x1 → inI x2 → inI x3 → SR M → ∃ M', lcK n k x1 x2 x3 M = some M' ∧ SR M' := by
  intro k x1 x2 x3 M hk h1 h2 h3 h
  obtain ⟨S, J, co, P⟩ := zx_ex
  match k, hk with
  | 0, _ => exact st_poly h hn
  | 1, _ => exact st_set h h1 h2 h3
  | 2, _ => exact st_at h h1 h2
  | 3, _ => exact st_times P h h1 h2 hn
  | 4, _ => exact st_over P h h1 h2 hn
  | 5, _ => exact st_gcd P h h1 h2 hn
  | 6, _ => exact st_run P h h1 hn
  | 7, _ => exact st_factor h h1
  | 8, _ => exact st_multiplicity h h1
  | 9, _ => exact st_content P h h1 hn
  | 10, _ => exact st_root P h h1 h2 h3 hn
  | 11, _ => exact st_roots P h h1 hn
  | 12, _ => exact st_parts P h h1 h2 hn
  | 13, _ => exact st_squareFree P h h1 hn
  | 14, _ => exact st_value h h1 h2 h3 hn
  | 15, _ => exact st_count h n x1 x2 x3
  | k + 16, hk => exact absurd hk (by omega)
end MStep
