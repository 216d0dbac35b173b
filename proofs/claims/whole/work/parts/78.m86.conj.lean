/-! the powers X^(p^d) modulo an irreducible row -/
section MConj
theorem pw1 {S : Type} [Lean.Grind.CommRing S] (z : S) : z ^ 1 = z := by rw [show z ^ 1 = z ^ (0 + 1) from rfl, pw_succ, pw_zero]; grind
theorem frob_pd {S : Type} [Lean.Grind.CommRing S] {p : Nat} (h : prm p) (hp : (nt p : S) = 0) (a b : S) : ∀ (d : Nat), (a + b) ^ (p ^ d) = a ^ (p ^ d) + b ^ (p ^ d)
  | 0 => by rw [Nat.pow_zero, pw1, pw1, pw1]
  | d + 1 => by rw [Nat.pow_succ, pw_mul, frob_pd h hp a b d, frob h hp, ← pw_mul, ← pw_mul]
theorem frob_pds {S : Type} [Lean.Grind.CommRing S] {p : Nat} (h : prm p) (hp : (nt p : S) = 0) (a b : S) (d : Nat) : (a - b) ^ (p ^ d) = a ^ (p ^ d) - b ^ (p ^ d) := by
  have h1 := frob_pd h hp (a - b) b d
  rw [show a - b + b = a by grind] at h1
  grind
theorem irr_pw {S : Type} [Lean.Grind.CommRing S] {N : S → Nat} (E : EU S N) {π : S} (hπ : irr N π) {a : S} : ∀ {n : Nat}, dv π (a ^ n) → dv π a
  | 0, h => by
    rw [pw_zero] at h
    have h0 : (1 : S) ≠ 0 := fun q => irr_ne E hπ (by have : π = π * 1 := by grind
                                                      rw [this, q]; grind)
    have h1 := eu_le E h h0
    rw [eu_one E h0] at h1
    have := hπ.1; omega
  | n + 1, h => by
    rw [pw_succ] at h
    rcases irr_dv E hπ h with h1 | h1
    · exact irr_pw E hπ h1
    · exact h1
theorem cg_inj {R S : Type} [Lean.Grind.CommRing R] [Lean.Grind.CommRing S] {co : S → Nat → R} (P : isPol co) {p : Nat} (h : isZp R p) {π : S} (hπ : irr (nu co) π) {a b : S} {d : Nat} (h1 : dv π (a ^ (p ^ d) - b ^ (p ^ d))) : dv π (a - b) := by
  rw [← frob_pds h.1 (nt_pS P h)] at h1
  exact irr_pw (pol_EU P h.2.2.1) hπ h1
theorem cg_pw {S : Type} [Lean.Grind.CommRing S] {m a b : S} (h : dv m (a - b)) : ∀ (n : Nat), dv m (a ^ n - b ^ n)
  | 0 => by rw [pw_zero, pw_zero, show (1 : S) - 1 = 0 by grind]; exact dv_zero m
  | n + 1 => by
    rw [pw_succ, pw_succ, show a ^ n * a - b ^ n * b = (a ^ n - b ^ n) * a + b ^ n * (a - b) by grind]
    exact dv_add (dv_mulr a (cg_pw h n)) (dv_mull _ h)
theorem cg_trans {S : Type} [Lean.Grind.CommRing S] {m a b c : S} (h : dv m (a - b)) (h1 : dv m (b - c)) : dv m (a - c) := by
  rw [show a - c = (a - b) + (b - c) by grind]; exact dv_add h h1
theorem cg_symm {S : Type} [Lean.Grind.CommRing S] {m a b : S} (h : dv m (a - b)) : dv m (b - a) := by
  rw [show b - a = 0 - (a - b) by grind]; exact dv_sub (dv_zero m) h
/-- the row itself has no more roots among the powers than its degree -/
theorem conj_ex {R S : Type} [Lean.Grind.CommRing R] [Lean.Grind.CommRing S] {co : S → Nat → R} (P : isPol co) {p : Nat} (h : isZp R p) {π : S} (hπ : irr (nu co) π) : ∃ t, 1 ≤ t ∧ t + 1 ≤ nu co π ∧ dv π (mo P 1 1 ^ (p ^ t) - mo P 1 1) := by
  apply Classical.byContradiction
  intro hn
  have hF := h.2.2.1
  have E := pol_EU P hF
  have h2 := hπ.1
  have e1 : nu co π - 1 + 1 = nu co π := by omega
  refine rootb (π := π) (fun a b => irr_dv E hπ) (nu co π - 1) (fun i => mo P (co π i) 0) (fun j => mo P 1 1 ^ (p ^ j)) ?_ (fun j _ => ?_) (fun j k hjk hk q => ?_)
  · exact unit_no P hF hπ (nu_top P π (by omega))
  · rw [e1]
    show dv π (ev P π (mo P 1 1 ^ p ^ j))
    rw [← X_pd P h]
    obtain ⟨m, hm⟩ : ∃ m, p ^ j = m + 1 := ⟨p ^ j - 1, by have := Nat.pow_pos (n := j) (show 0 < p by have := h.1.1; omega); omega⟩
    rw [hm, pw_succ]
    exact dv_r _ _
  · apply hn
    refine ⟨k - j, by omega, by omega, ?_⟩
    refine cg_symm (cg_inj P h hπ (d := j) ?_)
    rw [← pw_mul, ← Nat.pow_add, show k - j + j = k by omega]
    exact q
/-- base p digits -/
theorem dig_u {p : Nat} (hp : 2 ≤ p) : ∀ (e j k : Nat), j < p ^ e → k < p ^ e → (∀ i, i < e → j / p ^ i % p = k / p ^ i % p) → j = k
  | 0, j, k, hj, hk, _ => by simp at hj hk; omega
  | e + 1, j, k, hj, hk, h => by
    have h0 := h 0 (by omega)
    simp only [Nat.pow_zero, Nat.div_one] at h0
    have h1 : j / p = k / p := by
      refine dig_u hp e (j / p) (k / p) ?_ ?_ (fun i hi => ?_)
      · rw [Nat.pow_succ] at hj; exact Nat.div_lt_of_lt_mul (by rw [Nat.mul_comm]; exact hj)
      · rw [Nat.pow_succ] at hk; exact Nat.div_lt_of_lt_mul (by rw [Nat.mul_comm]; exact hk)
      · have := h (i + 1) (by omega)
        rw [Nat.pow_succ, Nat.mul_comm, ← Nat.div_div_eq_div_mul, ← Nat.div_div_eq_div_mul] at this
        exact this
    have a1 := Nat.div_add_mod j p
    have a2 := Nat.div_add_mod k p
    rw [h1, h0] at a1
    omega
theorem conj_ge {R S : Type} [Lean.Grind.CommRing R] [Lean.Grind.CommRing S] {co : S → Nat → R} (P : isPol co) {p : Nat} (h : isZp R p) {π : S} (hπ : irr (nu co) π) {t : Nat} (ht : 1 ≤ t) (h1 : dv π (mo P 1 1 ^ (p ^ t) - mo P 1 1)) : nu co π ≤ t + 1 := by
  rcases Nat.lt_or_ge (t + 1) (nu co π) with hlt | hge
  · exfalso
    have hp := h.1.1
    have hF := h.2.2.1
    have E := pol_EU P hF
    have hq : 2 ≤ p ^ t := by
      obtain ⟨s, rfl⟩ : ∃ s, t = s + 1 := ⟨t - 1, by omega⟩
      rw [Nat.pow_succ]
      have := Nat.pow_pos (n := s) (show 0 < p by omega)
      calc 2 ≤ p := hp
        _ = 1 * p := (Nat.one_mul p).symm
        _ ≤ p ^ s * p := Nat.mul_le_mul_right p this
    -- all rows are their own p^t-th power
    have hall : ∀ v : S, dv π (v ^ (p ^ t) - v) := by
      intro v
      have h2 := ev_cg P v h1
      rw [← X_pd P h, ev_X] at h2
      exact h2
    have hw : ∀ j : Nat, ∃ v : S, ∀ i, co v i = if i < t + 1 then nt (j / p ^ i % p) else 0 := fun j => P.2.2.2.2.1 _ (t + 1) (fun i hi => if_neg (by omega))
    have hs : ∀ y : S, sm (fun i => (if i = p ^ t then 1 else if i = 1 then -1 else 0) * y ^ i) (p ^ t + 1) = y ^ (p ^ t) - y := by
      intro y
      rw [sm, sm_one (k := 1) (by omega) (fun i hi hne => by rw [if_neg (by omega), if_neg hne]; grind), if_neg (by omega), if_pos rfl, if_pos rfl, pw1]
      grind
    refine rootb (π := π) (fun a b => irr_dv E hπ) (p ^ t) (fun i => if i = p ^ t then 1 else if i = 1 then -1 else 0) (fun j => Classical.choose (hw j)) ?_ (fun j _ => ?_) (fun j k hjk hk q => ?_)
    · rw [if_pos rfl, ← mo_one P]
      exact unit_no P hF hπ hF.1
    · rw [hs]; exact hall _
    · have hj := Classical.choose_spec (hw j)
      have hk' := Classical.choose_spec (hw k)
      generalize Classical.choose (hw j) = a at *
      generalize Classical.choose (hw k) = b at *
      have hz : a - b = 0 := by
        apply Classical.byContradiction
        intro hne
        have h3 := eu_le E q hne
        have h4 : nu co (a - b) ≤ t + 1 := nu_le P (fun i hi => by rw [p_sub P, hj, hk', if_neg (by omega)]; grind)
        omega
      have hlt2 : ∀ x, x ≤ p ^ t → x < p ^ (t + 1) := by
        intro x hx
        have : p ^ t * 2 ≤ p ^ t * p := Nat.mul_le_mul_left _ hp
        rw [Nat.pow_succ]; omega
      have hjk2 : j = k := by
        refine dig_u hp (t + 1) j k (hlt2 j (by omega)) (hlt2 k hk) (fun i hi => ?_)
        have h5 : co a i = co b i := by rw [show a = b by grind]
        rw [hj, hk', if_pos hi, if_pos hi] at h5
        have m1 := Nat.mod_lt (j / p ^ i) (show 0 < p by omega)
        have m2 := Nat.mod_lt (k / p ^ i) (show 0 < p by omega)
        rcases Nat.lt_trichotomy (j / p ^ i % p) (k / p ^ i % p) with q1 | q1 | q1
        · exact absurd (by rw [h5]; grind) (nt_inj h q1 m2)
        · exact q1
        · exact absurd (by rw [h5]; grind) (nt_inj h q1 m1)
      omega
  · exact hge
/-- the degree is the period -/
theorem conj_deg {R S : Type} [Lean.Grind.CommRing R] [Lean.Grind.CommRing S] {co : S → Nat → R} (P : isPol co) {p : Nat} (h : isZp R p) {π : S} (hπ : irr (nu co) π) : dv π (mo P 1 1 ^ (p ^ (nu co π - 1)) - mo P 1 1) := by
  obtain ⟨t, h1, h2, h3⟩ := conj_ex P h hπ
  have h4 := conj_ge P h hπ h1 h3
  rw [show nu co π - 1 = t by omega]
  exact h3
theorem conj_mul {R S : Type} [Lean.Grind.CommRing R] [Lean.Grind.CommRing S] {co : S → Nat → R} (P : isPol co) {p : Nat} {π : S} {e : Nat} (h1 : dv π (mo P 1 1 ^ (p ^ e) - mo P 1 1)) : ∀ (k : Nat), dv π (mo P 1 1 ^ (p ^ (e * k)) - mo P 1 1)
  | 0 => by rw [Nat.mul_zero, Nat.pow_zero, pw1, show mo P 1 1 - mo P 1 1 = (0 : S) by grind]; exact dv_zero _
  | k + 1 => by
    rw [Nat.mul_succ, Nat.pow_add, pw_mul]
    exact cg_trans (cg_pw (conj_mul P h1 k) (p ^ e)) h1
theorem conj_iff {R S : Type} [Lean.Grind.CommRing R] [Lean.Grind.CommRing S] {co : S → Nat → R} (P : isPol co) {p : Nat} (h : isZp R p) {π : S} (hπ : irr (nu co) π) {d : Nat} : dv π (mo P 1 1 ^ (p ^ d) - mo P 1 1) ↔ nu co π - 1 ∣ d := by
  have h2 := hπ.1
  constructor
  · intro h1
    have h3 := conj_mul P (conj_deg P h hπ) (d / (nu co π - 1))
    have h4 := Nat.div_add_mod d (nu co π - 1)
    have h5 := Nat.mod_lt d (show 0 < nu co π - 1 by omega)
    have h6 : dv π (mo P 1 1 ^ (p ^ (d % (nu co π - 1))) - mo P 1 1) := by
      refine cg_trans ?_ h1
      refine cg_symm ?_
      conv => arg 2; arg 1; rw [← h4, Nat.pow_add, pw_mul]
      exact cg_pw h3 _
    rcases Nat.eq_zero_or_pos (d % (nu co π - 1)) with h7 | h7
    · exact Nat.dvd_of_mod_eq_zero h7
    · have := conj_ge P h hπ h7 h6
      omega
  · rintro ⟨k, rfl⟩
    exact conj_mul P (conj_deg P h hπ) k
end MConj
