/-! the law's own methods, by the class's answers -/
section MAns
theorem xt_poly_2 {n : Nat} {M M1 : MI} (h : tw7 2 M1 (f_X7_poly n M)) : fL_poly n M = some (1, M1) := by
  have h2 : f_X7_poly n M = some (.inl (2, M1)) := h
  unfold fL_poly
  rw [h2]; rfl
theorem xa_poly {n : Nat} {M M1 : MI} {r : Int} (h : an7 r M1 (f_X7_poly n M)) (hr : inI r) : fL_poly n M = some (0, oJ M1 48 0 r) := by
  have h2 : f_X7_poly n M = some (.inr (r, M1)) := h
  unfold fL_poly
  rw [h2, bs]
  dsimp only
  rw [gI_s hr (by omega), bs, out_s, bs]
theorem xt_set_1 {a0 : Int} {a1 : Int} {a2 : Int} {M M1 : MI} (h : tw7 1 M1 (f_X7_set a0 a1 a2 M)) : fL_set a0 a1 a2 M = some (1, M1) := by
  have h2 : f_X7_set a0 a1 a2 M = some (.inl (1, M1)) := h
  unfold fL_set
  rw [h2]; rfl
theorem xt_set_3 {a0 : Int} {a1 : Int} {a2 : Int} {M M1 : MI} (h : tw7 3 M1 (f_X7_set a0 a1 a2 M)) : fL_set a0 a1 a2 M = some (2, M1) := by
  have h2 : f_X7_set a0 a1 a2 M = some (.inl (3, M1)) := h
  unfold fL_set
  rw [h2]; rfl
theorem xa_set {a0 : Int} {a1 : Int} {a2 : Int} {M M1 : MI} {r : Int} (h : an7 r M1 (f_X7_set a0 a1 a2 M)) (hr : r = 0 ∨ r = 1) : fL_set a0 a1 a2 M = some (0, oJ M1 48 0 r) := by
  have h2 : f_X7_set a0 a1 a2 M = some (.inr (r, M1)) := h
  have e2 : (if r = 0 then (0 : Int) else 1) = r := by rcases hr with z | z <;> rw [z] <;> rfl
  unfold fL_set
  rw [h2, bs]
  dsimp only
  rw [gI_s (by omega) (by omega), bs, e2, out_s, bs]
theorem xt_at_1 {a0 : Int} {a1 : Int} {M M1 : MI} (h : tw7 1 M1 (f_X7_at a0 a1 M)) : fL_at a0 a1 M = some (1, M1) := by
  have h2 : f_X7_at a0 a1 M = some (.inl (1, M1)) := h
  unfold fL_at
  rw [h2]; rfl
theorem xa_at {a0 : Int} {a1 : Int} {M M1 : MI} {r : Int} (h : an7 r M1 (f_X7_at a0 a1 M)) (hr : inI r) : fL_at a0 a1 M = some (0, oJ M1 48 0 r) := by
  have h2 : f_X7_at a0 a1 M = some (.inr (r, M1)) := h
  unfold fL_at
  rw [h2, bs]
  dsimp only
  rw [gI_s hr (by omega), bs, out_s, bs]
theorem xt_times_1 {n : Nat} {a0 : Int} {a1 : Int} {M M1 : MI} (h : tw7 1 M1 (f_X7_times n a0 a1 M)) : fL_times n a0 a1 M = some (1, M1) := by
  have h2 : f_X7_times n a0 a1 M = some (.inl (1, M1)) := h
  unfold fL_times
  rw [h2]; rfl
theorem xt_times_2 {n : Nat} {a0 : Int} {a1 : Int} {M M1 : MI} (h : tw7 2 M1 (f_X7_times n a0 a1 M)) : fL_times n a0 a1 M = some (2, M1) := by
  have h2 : f_X7_times n a0 a1 M = some (.inl (2, M1)) := h
  unfold fL_times
  rw [h2]; rfl
theorem xt_times_3 {n : Nat} {a0 : Int} {a1 : Int} {M M1 : MI} (h : tw7 3 M1 (f_X7_times n a0 a1 M)) : fL_times n a0 a1 M = some (3, M1) := by
  have h2 : f_X7_times n a0 a1 M = some (.inl (3, M1)) := h
  unfold fL_times
  rw [h2]; rfl
theorem xa_times {n : Nat} {a0 : Int} {a1 : Int} {M M1 : MI} {r : Int} (h : an7 r M1 (f_X7_times n a0 a1 M)) (hr : inI r) : fL_times n a0 a1 M = some (0, oJ M1 48 0 r) := by
  have h2 : f_X7_times n a0 a1 M = some (.inr (r, M1)) := h
  unfold fL_times
  rw [h2, bs]
  dsimp only
  rw [gI_s hr (by omega), bs, out_s, bs]
theorem xt_over_1 {n : Nat} {a0 : Int} {a1 : Int} {M M1 : MI} (h : tw7 1 M1 (f_X7_over n a0 a1 M)) : fL_over n a0 a1 M = some (1, M1) := by
  have h2 : f_X7_over n a0 a1 M = some (.inl (1, M1)) := h
  unfold fL_over
  rw [h2]; rfl
theorem xt_over_2 {n : Nat} {a0 : Int} {a1 : Int} {M M1 : MI} (h : tw7 2 M1 (f_X7_over n a0 a1 M)) : fL_over n a0 a1 M = some (2, M1) := by
  have h2 : f_X7_over n a0 a1 M = some (.inl (2, M1)) := h
  unfold fL_over
  rw [h2]; rfl
theorem xt_over_4 {n : Nat} {a0 : Int} {a1 : Int} {M M1 : MI} (h : tw7 4 M1 (f_X7_over n a0 a1 M)) : fL_over n a0 a1 M = some (3, M1) := by
  have h2 : f_X7_over n a0 a1 M = some (.inl (4, M1)) := h
  unfold fL_over
  rw [h2]; rfl
theorem xa_over {n : Nat} {a0 : Int} {a1 : Int} {M M1 : MI} {r : Int} (h : an7 r M1 (f_X7_over n a0 a1 M)) (hr : inI r) : fL_over n a0 a1 M = some (0, oJ M1 48 0 r) := by
  have h2 : f_X7_over n a0 a1 M = some (.inr (r, M1)) := h
  unfold fL_over
  rw [h2, bs]
  dsimp only
  rw [gI_s hr (by omega), bs, out_s, bs]
theorem xt_gcd_1 {n : Nat} {a0 : Int} {a1 : Int} {M M1 : MI} (h : tw7 1 M1 (f_X7_gcd n a0 a1 M)) : fL_gcd n a0 a1 M = some (1, M1) := by
  have h2 : f_X7_gcd n a0 a1 M = some (.inl (1, M1)) := h
  unfold fL_gcd
  rw [h2]; rfl
theorem xt_gcd_2 {n : Nat} {a0 : Int} {a1 : Int} {M M1 : MI} (h : tw7 2 M1 (f_X7_gcd n a0 a1 M)) : fL_gcd n a0 a1 M = some (2, M1) := by
  have h2 : f_X7_gcd n a0 a1 M = some (.inl (2, M1)) := h
  unfold fL_gcd
  rw [h2]; rfl
theorem xa_gcd {n : Nat} {a0 : Int} {a1 : Int} {M M1 : MI} {r : Int} (h : an7 r M1 (f_X7_gcd n a0 a1 M)) (hr : inI r) : fL_gcd n a0 a1 M = some (0, oJ M1 48 0 r) := by
  have h2 : f_X7_gcd n a0 a1 M = some (.inr (r, M1)) := h
  unfold fL_gcd
  rw [h2, bs]
  dsimp only
  rw [gI_s hr (by omega), bs, out_s, bs]
theorem xt_run_1 {n : Nat} {a0 : Int} {M M1 : MI} (h : tw7 1 M1 (f_X7_run n a0 M)) : fL_run n a0 M = some (1, M1) := by
  have h2 : f_X7_run n a0 M = some (.inl (1, M1)) := h
  unfold fL_run
  rw [h2]; rfl
theorem xt_run_2 {n : Nat} {a0 : Int} {M M1 : MI} (h : tw7 2 M1 (f_X7_run n a0 M)) : fL_run n a0 M = some (2, M1) := by
  have h2 : f_X7_run n a0 M = some (.inl (2, M1)) := h
  unfold fL_run
  rw [h2]; rfl
theorem xa_run {n : Nat} {a0 : Int} {M M1 : MI} {r : Int} (h : an7 r M1 (f_X7_run n a0 M)) (hr : inI r) : fL_run n a0 M = some (0, oJ M1 48 0 r) := by
  have h2 : f_X7_run n a0 M = some (.inr (r, M1)) := h
  unfold fL_run
  rw [h2, bs]
  dsimp only
  rw [gI_s hr (by omega), bs, out_s, bs]
theorem xt_factor_1 {a0 : Int} {M M1 : MI} (h : tw7 1 M1 (f_X7_factor a0 M)) : fL_factor a0 M = some (1, M1) := by
  have h2 : f_X7_factor a0 M = some (.inl (1, M1)) := h
  unfold fL_factor
  rw [h2]; rfl
theorem xa_factor {a0 : Int} {M M1 : MI} {r : Int} (h : an7 r M1 (f_X7_factor a0 M)) (hr : inI r) : fL_factor a0 M = some (0, oJ M1 48 0 r) := by
  have h2 : f_X7_factor a0 M = some (.inr (r, M1)) := h
  unfold fL_factor
  rw [h2, bs]
  dsimp only
  rw [gI_s hr (by omega), bs, out_s, bs]
theorem xt_multiplicity_1 {a0 : Int} {M M1 : MI} (h : tw7 1 M1 (f_X7_multiplicity a0 M)) : fL_multiplicity a0 M = some (1, M1) := by
  have h2 : f_X7_multiplicity a0 M = some (.inl (1, M1)) := h
  unfold fL_multiplicity
  rw [h2]; rfl
theorem xa_multiplicity {a0 : Int} {M M1 : MI} {r : Int} (h : an7 r M1 (f_X7_multiplicity a0 M)) (hr : inI r) : fL_multiplicity a0 M = some (0, oJ M1 48 0 r) := by
  have h2 : f_X7_multiplicity a0 M = some (.inr (r, M1)) := h
  unfold fL_multiplicity
  rw [h2, bs]
  dsimp only
  rw [gI_s hr (by omega), bs, out_s, bs]
theorem xt_content_1 {n : Nat} {a0 : Int} {M M1 : MI} (h : tw7 1 M1 (f_X7_content n a0 M)) : fL_content n a0 M = some (1, M1) := by
  have h2 : f_X7_content n a0 M = some (.inl (1, M1)) := h
  unfold fL_content
  rw [h2]; rfl
theorem xa_content {n : Nat} {a0 : Int} {M M1 : MI} {r : Int} (h : an7 r M1 (f_X7_content n a0 M)) (hr : inI r) : fL_content n a0 M = some (0, oJ M1 48 0 r) := by
  have h2 : f_X7_content n a0 M = some (.inr (r, M1)) := h
  unfold fL_content
  rw [h2, bs]
  dsimp only
  rw [gI_s hr (by omega), bs, out_s, bs]
theorem xt_root_1 {n : Nat} {a0 : Int} {a1 : Int} {a2 : Int} {M M1 : MI} (h : tw7 1 M1 (f_X7_root n a0 a1 a2 M)) : fL_root n a0 a1 a2 M = some (1, M1) := by
  have h2 : f_X7_root n a0 a1 a2 M = some (.inl (1, M1)) := h
  unfold fL_root
  rw [h2]; rfl
theorem xt_root_3 {n : Nat} {a0 : Int} {a1 : Int} {a2 : Int} {M M1 : MI} (h : tw7 3 M1 (f_X7_root n a0 a1 a2 M)) : fL_root n a0 a1 a2 M = some (2, M1) := by
  have h2 : f_X7_root n a0 a1 a2 M = some (.inl (3, M1)) := h
  unfold fL_root
  rw [h2]; rfl
theorem xa_root {n : Nat} {a0 : Int} {a1 : Int} {a2 : Int} {M M1 : MI} {r : Int} (h : an7 r M1 (f_X7_root n a0 a1 a2 M)) (hr : inI r) : fL_root n a0 a1 a2 M = some (0, oJ M1 48 0 r) := by
  have h2 : f_X7_root n a0 a1 a2 M = some (.inr (r, M1)) := h
  unfold fL_root
  rw [h2, bs]
  dsimp only
  rw [gI_s hr (by omega), bs, out_s, bs]
theorem xt_roots_1 {n : Nat} {a0 : Int} {M M1 : MI} (h : tw7 1 M1 (f_X7_roots n a0 M)) : fL_roots n a0 M = some (1, M1) := by
  have h2 : f_X7_roots n a0 M = some (.inl (1, M1)) := h
  unfold fL_roots
  rw [h2]; rfl
theorem xa_roots {n : Nat} {a0 : Int} {M M1 : MI} {r : Int} (h : an7 r M1 (f_X7_roots n a0 M)) (hr : inI r) : fL_roots n a0 M = some (0, oJ M1 48 0 r) := by
  have h2 : f_X7_roots n a0 M = some (.inr (r, M1)) := h
  unfold fL_roots
  rw [h2, bs]
  dsimp only
  rw [gI_s hr (by omega), bs, out_s, bs]
theorem xt_parts_1 {n : Nat} {a0 : Int} {a1 : Int} {M M1 : MI} (h : tw7 1 M1 (f_X7_parts n a0 a1 M)) : fL_parts n a0 a1 M = some (1, M1) := by
  have h2 : f_X7_parts n a0 a1 M = some (.inl (1, M1)) := h
  unfold fL_parts
  rw [h2]; rfl
theorem xt_parts_3 {n : Nat} {a0 : Int} {a1 : Int} {M M1 : MI} (h : tw7 3 M1 (f_X7_parts n a0 a1 M)) : fL_parts n a0 a1 M = some (2, M1) := by
  have h2 : f_X7_parts n a0 a1 M = some (.inl (3, M1)) := h
  unfold fL_parts
  rw [h2]; rfl
theorem xa_parts {n : Nat} {a0 : Int} {a1 : Int} {M M1 : MI} {r : Int} (h : an7 r M1 (f_X7_parts n a0 a1 M)) (hr : inI r) : fL_parts n a0 a1 M = some (0, oJ M1 48 0 r) := by
  have h2 : f_X7_parts n a0 a1 M = some (.inr (r, M1)) := h
  unfold fL_parts
  rw [h2, bs]
  dsimp only
  rw [gI_s hr (by omega), bs, out_s, bs]
theorem xt_squareFree_1 {n : Nat} {a0 : Int} {M M1 : MI} (h : tw7 1 M1 (f_X7_squareFree n a0 M)) : fL_squareFree n a0 M = some (1, M1) := by
  have h2 : f_X7_squareFree n a0 M = some (.inl (1, M1)) := h
  unfold fL_squareFree
  rw [h2]; rfl
theorem xa_squareFree {n : Nat} {a0 : Int} {M M1 : MI} {r : Int} (h : an7 r M1 (f_X7_squareFree n a0 M)) (hr : r = 0 ∨ r = 1) : fL_squareFree n a0 M = some (0, oJ M1 48 0 r) := by
  have h2 : f_X7_squareFree n a0 M = some (.inr (r, M1)) := h
  have e2 : (if r = 0 then (0 : Int) else 1) = r := by rcases hr with z | z <;> rw [z] <;> rfl
  unfold fL_squareFree
  rw [h2, bs]
  dsimp only
  rw [gI_s (by omega) (by omega), bs, e2, out_s, bs]
theorem xt_value_1 {n : Nat} {a0 : Int} {a1 : Int} {a2 : Int} {M M1 : MI} (h : tw7 1 M1 (f_X7_value n a0 a1 a2 M)) : fL_value n a0 a1 a2 M = some (1, M1) := by
  have h2 : f_X7_value n a0 a1 a2 M = some (.inl (1, M1)) := h
  unfold fL_value
  rw [h2]; rfl
theorem xt_value_3 {n : Nat} {a0 : Int} {a1 : Int} {a2 : Int} {M M1 : MI} (h : tw7 3 M1 (f_X7_value n a0 a1 a2 M)) : fL_value n a0 a1 a2 M = some (2, M1) := by
  have h2 : f_X7_value n a0 a1 a2 M = some (.inl (3, M1)) := h
  unfold fL_value
  rw [h2]; rfl
theorem xa_value {n : Nat} {a0 : Int} {a1 : Int} {a2 : Int} {M M1 : MI} {r : Int} (h : an7 r M1 (f_X7_value n a0 a1 a2 M)) (hr : inI r) : fL_value n a0 a1 a2 M = some (0, oJ M1 48 0 r) := by
  have h2 : f_X7_value n a0 a1 a2 M = some (.inr (r, M1)) := h
  unfold fL_value
  rw [h2, bs]
  dsimp only
  rw [gI_s hr (by omega), bs, out_s, bs]
end MAns
