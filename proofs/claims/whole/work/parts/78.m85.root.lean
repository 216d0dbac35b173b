/-! no more roots than the degree; powers of the letter -/
section MRoot
theorem syn {S : Type} [Lean.Grind.CommRing S] (r : S) : ∀ (n : Nat) (c : Nat → S), ∃ q : Nat → S, (n ≠ 0 → q (n - 1) = c n) ∧ ∀ y, sm (fun i => c i * y ^ i) (n + 1) - sm (fun i => c i * r ^ i) (n + 1) = (y - r) * sm (fun i => q i * y ^ i) n
  | 0, c => ⟨fun _ => 0, fun h => absurd rfl h, fun y => by simp only [sm]; rw [pw_zero, pw_zero]; grind⟩
  | n + 1, c => by
    obtain ⟨q, h1, h2⟩ := syn r n (fun i => c (i + 1))
    refine ⟨fun i => if i = 0 then sm (fun i => c (i + 1) * r ^ i) (n + 1) else q (i - 1), fun _ => ?_, fun y => ?_⟩
    · cases n with
      | zero => simp only [Nat.add_sub_cancel, if_pos, sm]; rw [pw_zero]; grind
      | succ m =>
        dsimp only
        rw [Nat.add_sub_cancel, if_neg (by omega)]
        exact h1 (by omega)
    · have e1 : ∀ z : S, sm (fun i => c (i + 1) * z ^ (i + 1)) (n + 1) = z * sm (fun i => c (i + 1) * z ^ i) (n + 1) := by
        intro z
        rw [← sm_mul]
        exact sm_congr (fun i _ => by rw [pw_succ]; grind)
      have e2 : sm (fun i => (if i = 0 then sm (fun i => c (i + 1) * r ^ i) (n + 1) else q (i - 1)) * y ^ i) (n + 1) = sm (fun i => c (i + 1) * r ^ i) (n + 1) + y * sm (fun i => q i * y ^ i) n := by
        rw [sm_front, if_pos rfl, pw_zero, ← sm_mul]
        rw [sm_congr (f := fun i => (if i + 1 = 0 then sm (fun i => c (i + 1) * r ^ i) (n + 1) else q (i + 1 - 1)) * y ^ (i + 1)) (g := fun i => y * (q i * y ^ i)) (fun i _ => by rw [if_neg (by omega), Nat.add_sub_cancel, pw_succ]; grind)]
        grind
      rw [sm_front, sm_front (fun i => c i * r ^ i), e1, e1, e2, pw_zero, pw_zero]
      have h3 := h2 y
      grind
theorem rootb {S : Type} [Lean.Grind.CommRing S] {π : S} (hπ : ∀ a b, dv π (a * b) → dv π a ∨ dv π b) : ∀ (n : Nat) (c r : Nat → S), ¬ dv π (c n) → (∀ j, j ≤ n → dv π (sm (fun i => c i * r j ^ i) (n + 1))) → (∀ j k, j < k → k ≤ n → ¬ dv π (r j - r k)) → False
  | 0, c, r, h, h1, _ => by
    have h2 := h1 0 (Nat.le_refl _)
    simp only [sm, pw_zero] at h2
    rw [show (0 : S) + c 0 * 1 = c 0 by grind] at h2
    exact h h2
  | n + 1, c, r, h, h1, h2 => by
    obtain ⟨q, h3, h4⟩ := syn (r (n + 1)) (n + 1) c
    refine rootb hπ n q r (by rw [show n = n + 1 - 1 by omega, h3 (by omega)]; exact h) (fun j hj => ?_) (fun j k hjk hk => h2 j k hjk (by omega))
    have h5 := dv_sub (h1 j (by omega)) (h1 (n + 1) (Nat.le_refl _))
    rw [h4 (r j)] at h5
    rcases hπ _ _ h5 with h6 | h6
    · exact absurd h6 (h2 j (n + 1) (by omega) (Nat.le_refl _))
    · exact h6
theorem mo_N {R S : Type} [Lean.Grind.CommRing R] [Lean.Grind.CommRing S] {co : S → Nat → R} (P : isPol co) {c : R} (k : Nat) (hc : c ≠ 0) : nu co (mo P c k) = k + 1 :=
  nu_eq P (fun i hi => by rw [mo_co P, if_neg (by omega)]) (fun _ => by rw [Nat.add_sub_cancel, mo_co P, if_pos rfl]; exact hc)
theorem mo_sub {R S : Type} [Lean.Grind.CommRing R] [Lean.Grind.CommRing S] {co : S → Nat → R} (P : isPol co) (c d : R) (k : Nat) : mo P c k - mo P d k = mo P (c - d) k := by
  refine p_ext P (fun i => ?_)
  rw [p_sub P, mo_co P, mo_co P, mo_co P]
  by_cases h : i = k
  · simp only [if_pos h]
  · simp only [if_neg h]; grind
theorem mo_nt {R S : Type} [Lean.Grind.CommRing R] [Lean.Grind.CommRing S] {co : S → Nat → R} (P : isPol co) : ∀ (n : Nat), (nt n : S) = mo P (nt n) 0
  | 0 => by rw [nt_zero, nt_zero, mo_zero]
  | n + 1 => by rw [nt_succ, nt_succ, mo_add, mo_nt P n, mo_one]
theorem mo_pw {R S : Type} [Lean.Grind.CommRing R] [Lean.Grind.CommRing S] {co : S → Nat → R} (P : isPol co) (c : R) (k : Nat) : ∀ (n : Nat), (mo P c k) ^ n = mo P (c ^ n) (k * n)
  | 0 => by rw [pw_zero, pw_zero, Nat.mul_zero, mo_one]
  | n + 1 => by rw [pw_succ, mo_pw P c k n, mo_mm, pw_succ, Nat.mul_succ]
theorem unit_no {R S : Type} [Lean.Grind.CommRing R] [Lean.Grind.CommRing S] {co : S → Nat → R} (P : isPol co) (hF : isF R) {π : S} (h : irr (nu co) π) {c : R} (hc : c ≠ 0) : ¬ dv π (mo P c 0) := by
  intro h1
  have h2 := eu_le (pol_EU P hF) h1 (fun q => by have := (nu_zero P).mpr q; rw [mo_N P 0 hc] at this; omega)
  rw [mo_N P 0 hc] at h2
  have := h.1
  omega
theorem nt_inj {R : Type} [Lean.Grind.CommRing R] {p : Nat} (h : isZp R p) {j k : Nat} (hj : j < k) (hk : k < p) : (nt j : R) - nt k ≠ 0 := by
  intro q
  have h1 : (nt k : R) = nt j + nt (k - j) := by rw [← nt_add, show j + (k - j) = k by omega]
  exact h.2.2.2.2 (k - j) (by omega) (by omega) (by grind)
/-- what is its own p-th power modulo an irreducible row is a constant there -/
theorem berl {R S : Type} [Lean.Grind.CommRing R] [Lean.Grind.CommRing S] {co : S → Nat → R} (P : isPol co) {p : Nat} (h : isZp R p) {π v : S} (hπ : irr (nu co) π) (hv : dv π (v ^ p - v)) : ∃ c : R, dv π (v - mo P c 0) := by
  apply Classical.byContradiction
  intro hn
  have hp := h.1.1
  have hF := h.2.2.1
  have E := pol_EU P hF
  have hs : ∀ y : S, sm (fun i => (if i = p then 1 else if i = 1 then -1 else 0) * y ^ i) (p + 1) = y ^ p - y := by
    intro y
    rw [sm, sm_one (k := 1) (by omega) (fun i hi hne => by rw [if_neg (by omega), if_neg hne]; grind), if_neg (by omega), if_pos rfl, if_pos rfl, show y ^ 1 = y ^ (0 + 1) from rfl, pw_succ, pw_zero]
    grind
  refine rootb (fun a b => irr_dv E hπ) p (fun i => if i = p then 1 else if i = 1 then -1 else 0) (fun j => if j = p then v else mo P (nt j) 0) ?_ (fun j hj => ?_) (fun j k hjk hk => ?_)
  · rw [if_pos rfl, ← mo_one P]
    exact unit_no P hF hπ hF.1
  · rw [hs]
    by_cases hjp : j = p
    · rw [if_pos hjp]; exact hv
    · rw [if_neg hjp, mo_pw, Nat.zero_mul, fermat h]
      rw [show mo P (nt j) 0 - mo P (nt j) 0 = (0 : S) by grind]
      exact dv_zero _
  · rw [if_neg (show ¬ j = p by omega)]
    by_cases hkp : k = p
    · rw [if_pos hkp]
      intro q
      apply hn
      refine ⟨nt j, ?_⟩
      obtain ⟨c, hc⟩ := q
      exact ⟨-c, by grind⟩
    · rw [if_neg hkp, mo_sub]
      exact unit_no P hF hπ (nt_inj h hjk (by omega))
/-- a row at another letter -/
noncomputable def ev {R S : Type} [Lean.Grind.CommRing R] [Lean.Grind.CommRing S] {co : S → Nat → R} (P : isPol co) (f y : S) : S := sm (fun i => mo P (co f i) 0 * y ^ i) (nu co f)
theorem ev_n {R S : Type} [Lean.Grind.CommRing R] [Lean.Grind.CommRing S] {co : S → Nat → R} (P : isPol co) (f y : S) {n : Nat} (h : nu co f ≤ n) : ev P f y = sm (fun i => mo P (co f i) 0 * y ^ i) n :=
  (sm_more h (fun i hi _ => by rw [nu_hi P f hi, mo_zero]; grind)).symm
theorem sm_co {R S : Type} [Lean.Grind.CommRing R] [Lean.Grind.CommRing S] {co : S → Nat → R} (P : isPol co) (F : Nat → S) (k : Nat) : ∀ (n : Nat), co (sm F n) k = sm (fun i => co (F i) k) n
  | 0 => by simp only [sm]; exact p_zero P k
  | n + 1 => by simp only [sm]; rw [p_add P, sm_co P F k n]
theorem ev_X {R S : Type} [Lean.Grind.CommRing R] [Lean.Grind.CommRing S] {co : S → Nat → R} (P : isPol co) (f : S) : ev P f (mo P 1 1) = f := by
  refine p_ext P (fun k => ?_)
  unfold ev
  rw [sm_co P]
  have h1 : ∀ i, co (mo P (co f i) 0 * mo P 1 1 ^ i) k = if k = i then co f i else 0 := by
    intro i
    rw [mo_pw, mo_mm, mo_co P, pw_one, Nat.zero_add, Nat.one_mul]
    by_cases h : k = i
    · rw [if_pos h, if_pos h]; grind
    · rw [if_neg h, if_neg h]
  rw [sm_congr (g := fun i => if k = i then co f i else 0) (fun i _ => h1 i)]
  rcases Nat.lt_or_ge k (nu co f) with h | h
  · rw [sm_one (k := k) h (fun i _ hne => if_neg (fun q => hne q.symm)), if_pos rfl]
  · rw [sm_zero (fun i hi => if_neg (by omega)), nu_hi P f h]
theorem nt_pS {R S : Type} [Lean.Grind.CommRing R] [Lean.Grind.CommRing S] {co : S → Nat → R} (P : isPol co) {p : Nat} (h : isZp R p) : (nt p : S) = 0 := by rw [mo_nt P, h.2.1, mo_zero]
theorem ev_p {R S : Type} [Lean.Grind.CommRing R] [Lean.Grind.CommRing S] {co : S → Nat → R} (P : isPol co) {p : Nat} (h : isZp R p) (f y : S) : (ev P f y) ^ p = ev P f (y ^ p) := by
  unfold ev
  rw [frob_sm h.1 (nt_pS P h)]
  refine sm_congr (fun i _ => ?_)
  rw [pw_mm, mo_pw, Nat.zero_mul, fermat h, ← pw_mul, ← pw_mul, Nat.mul_comm]
theorem ev_pd {R S : Type} [Lean.Grind.CommRing R] [Lean.Grind.CommRing S] {co : S → Nat → R} (P : isPol co) {p : Nat} (h : isZp R p) (f y : S) : ∀ (d : Nat), (ev P f y) ^ (p ^ d) = ev P f (y ^ (p ^ d))
  | 0 => by
    have h1 : ∀ z : S, z ^ (p ^ 0) = z := fun z => by rw [Nat.pow_zero, show z ^ 1 = z ^ (0 + 1) from rfl, pw_succ, pw_zero]; grind
    rw [h1, h1]
  | d + 1 => by rw [Nat.pow_succ, pw_mul, ev_pd P h f y d, ev_p P h, ← pw_mul]
theorem X_pd {R S : Type} [Lean.Grind.CommRing R] [Lean.Grind.CommRing S] {co : S → Nat → R} (P : isPol co) {p : Nat} (h : isZp R p) (f : S) (d : Nat) : f ^ (p ^ d) = ev P f (mo P 1 1 ^ (p ^ d)) := by
  have := ev_pd P h f (mo P 1 1) d
  rw [ev_X] at this
  exact this
theorem ev_cg {R S : Type} [Lean.Grind.CommRing R] [Lean.Grind.CommRing S] {co : S → Nat → R} (P : isPol co) (f : S) {m y z : S} (h : dv m (y - z)) : dv m (ev P f y - ev P f z) := by
  unfold ev
  rw [← sm_sub]
  have h1 : ∀ i : Nat, dv m (y ^ i - z ^ i) := by
    intro i
    induction i with
    | zero => rw [pw_zero, pw_zero]; rw [show (1 : S) - 1 = 0 by grind]; exact dv_zero m
    | succ i ih =>
      rw [pw_succ, pw_succ, show y ^ i * y - z ^ i * z = (y ^ i - z ^ i) * y + z ^ i * (y - z) by grind]
      exact dv_add (dv_mulr y ih) (dv_mull _ h)
  generalize nu co f = n
  induction n with
  | zero => exact dv_zero m
  | succ n ih =>
    simp only [sm]
    refine dv_add ih ?_
    rw [show mo P (co f n) 0 * y ^ n - mo P (co f n) 0 * z ^ n = mo P (co f n) 0 * (y ^ n - z ^ n) by grind]
    exact dv_mull _ (h1 n)
end MRoot
