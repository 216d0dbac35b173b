/-! how the mirrors are run: loops, loads, stores -/
section MSp
theorem lp_do {σ ρ : Type} {step : σ → Option (ρ ⊕ σ)} (I : σ → Prop) (μ : σ → Nat) (Post : ρ → Prop) (h : ∀ s, I s → (∃ r, step s = some (.inl r) ∧ Post r) ∨ (∃ s', step s = some (.inr s') ∧ I s' ∧ μ s' < μ s)) : ∀ (n : Nat) (s : σ), I s → μ s < n → ∃ r, lpF step n s = some r ∧ Post r
  | 0, s, _, hn => absurd hn (by omega)
  | n + 1, s, hs, hn => by
    rcases h s hs with ⟨r, h1, h2⟩ | ⟨s', h1, h2, h3⟩
    · exact ⟨r, by simp only [lpF, h1], h2⟩
    · obtain ⟨r, h4, h5⟩ := lp_do I μ Post h n s' h2 (by omega)
      exact ⟨r, by simp only [lpF, h1]; exact h4, h5⟩
theorem bs {α β : Type} (a : α) (f : α → Option β) : Option.bind (some a) f = f a := rfl
theorem gI_s {x y : Int} (hx : inI x) (hy : inI y) : gI x y = some () := if_pos ⟨hx, hy⟩
theorem gJ_s {x y : Int} (hx : inJ x) (hy : inJ y) : gJ x y = some () := if_pos ⟨hx, hy⟩
theorem odJ_n {M : MI} {k : Nat} {i : Int} (n : Nat) (hk : kd k = 2) (hi : i = (n : Int)) (hn : n < kn k) : odJ M k i = some (M.1 k n) := by
  subst hi; unfold odJ; rw [if_pos ⟨hk, by omega, by omega⟩, Int.toNat_natCast]
theorem odI_n {M : MI} {k : Nat} {i : Int} (n : Nat) (hk : kd k = 1) (hi : i = (n : Int)) (hn : n < kn k) : odI M k i = some (M.2 k n) := by
  subst hi; unfold odI; rw [if_pos ⟨hk, by omega, by omega⟩, Int.toNat_natCast]
theorem osJ_n {M : MI} {k : Nat} {i x : Int} (n : Nat) (hk : kd k = 2) (hi : i = (n : Int)) (hn : n < kn k) : osJ M k i x = some (oJ M k n x) := by
  subst hi; unfold osJ; rw [if_pos ⟨hk, by omega, by omega⟩, Int.toNat_natCast]
theorem osI_n {M : MI} {k : Nat} {i x : Int} (n : Nat) (hk : kd k = 1) (hi : i = (n : Int)) (hn : n < kn k) : osI M k i x = some (oI M k n x) := by
  subst hi; unfold osI; rw [if_pos ⟨hk, by omega, by omega⟩, Int.toNat_natCast]
def ok (M : MI) : Prop := (∀ k i, inJ (M.1 k i)) ∧ (∀ k i, inI (M.2 k i))
theorem oJ_1 (M : MI) (k j : Nat) (x : Int) (a i : Nat) : (oJ M k j x).1 a i = if a = k ∧ i = j then x else M.1 a i := by
  unfold oJ; dsimp only
  by_cases h : a = k
  · rw [if_pos h]
    by_cases h2 : i = j
    · rw [if_pos h2, if_pos ⟨h, h2⟩]
    · rw [if_neg h2, if_neg (fun q => h2 q.2), h]
  · rw [if_neg h, if_neg (fun q => h q.1)]
theorem oI_2 (M : MI) (k j : Nat) (x : Int) (a i : Nat) : (oI M k j x).2 a i = if a = k ∧ i = j then x else M.2 a i := by
  unfold oI; dsimp only
  by_cases h : a = k
  · rw [if_pos h]
    by_cases h2 : i = j
    · rw [if_pos h2, if_pos ⟨h, h2⟩]
    · rw [if_neg h2, if_neg (fun q => h2 q.2), h]
  · rw [if_neg h, if_neg (fun q => h q.1)]
theorem oJ_2 (M : MI) (k j : Nat) (x : Int) : (oJ M k j x).2 = M.2 := rfl
theorem oI_1 (M : MI) (k j : Nat) (x : Int) : (oI M k j x).1 = M.1 := rfl
theorem ok_oJ {M : MI} (h : ok M) {k j : Nat} {x : Int} (hx : inJ x) : ok (oJ M k j x) := ⟨fun a i => by
  rw [oJ_1]; split
  · exact hx
  · exact h.1 a i, h.2⟩
theorem ok_oI {M : MI} (h : ok M) {k j : Nat} {x : Int} (hx : inI x) : ok (oI M k j x) := ⟨h.1, fun a i => by
  rw [oI_2]; split
  · exact hx
  · exact h.2 a i⟩
end MSp
