/-! a small multiple of the common divisor is a combination -/
section MGood
theorem sm_abs {f : Nat → Int} : ∀ (n : Nat), ((sm f n).natAbs : Int) ≤ sm (fun i => ((f i).natAbs : Int)) n
  | 0 => by simp [sm]
  | n + 1 => by
    rw [sm_succ, sm_succ]
    have := sm_abs (f := f) n
    omega
def nz (c : Int) : Int := (c.natAbs : Int)
theorem nz_mul (a b : Int) : nz (a * b) = nz a * nz b := by unfold nz; rw [Int.natAbs_mul, Int.natCast_mul]
theorem nz_nn (a : Int) : 0 ≤ nz a := by unfold nz; omega
noncomputable def l1 {S : Type} [Lean.Grind.CommRing S] (co : S → Nat → Int) (a : S) : Int := sm (fun i => nz (co a i)) (nu co a)
theorem l1_n {S : Type} [Lean.Grind.CommRing S] {co : S → Nat → Int} (P : isPol co) (a : S) {n : Nat} (h : nu co a ≤ n) : sm (fun i => nz (co a i)) n = l1 co a := sm_more h (fun i hi _ => by rw [nu_hi P a hi]; rfl)
theorem l1_any {S : Type} [Lean.Grind.CommRing S] {co : S → Nat → Int} (P : isPol co) (a : S) (n : Nat) : sm (fun i => nz (co a i)) n ≤ l1 co a := by
  rcases Nat.lt_or_ge n (nu co a) with h | h
  · unfold l1
    obtain ⟨k, hk⟩ := Nat.exists_eq_add_of_le (Nat.le_of_lt h)
    rw [hk, sm_split]
    have := sm_nn (f := fun i => nz (co a (n + i))) (n := k) (fun i _ => nz_nn _)
    omega
  · rw [l1_n P a h]; exact Int.le_refl _
theorem l1_win {S : Type} [Lean.Grind.CommRing S] {co : S → Nat → Int} (P : isPol co) (a : S) (J k : Nat) : sm (fun j => nz (if j ≤ k then co a (k - j) else 0)) J ≤ l1 co a := by
  have h1 : sm (fun j => nz (if j ≤ k then co a (k - j) else 0)) J ≤ sm (fun j => nz (if j ≤ k then co a (k - j) else 0)) (k + 1) := by
    rcases Nat.lt_or_ge J (k + 1) with h | h
    · obtain ⟨t, ht⟩ := Nat.exists_eq_add_of_le (Nat.le_of_lt h)
      rw [ht, sm_split _ J t]
      have := sm_nn (f := fun i => nz (if J + i ≤ k then co a (k - (J + i)) else 0)) (n := t) (fun i _ => nz_nn _)
      omega
    · rw [sm_more h (fun i hi _ => by rw [if_neg (by omega)]; rfl)]; exact Int.le_refl _
  have h2 : sm (fun j => nz (if j ≤ k then co a (k - j) else 0)) (k + 1) = sm (fun j => nz (co a j)) (k + 1) := by
    rw [← sm_rev (fun j => nz (co a j)) k]
    exact sm_congr (fun j hj => by rw [if_pos (by omega)])
  have := l1_any P a (k + 1)
  omega
theorem sm_mul_l {S : Type} [Lean.Grind.CommRing S] (F : Nat → S) (a : S) (n : Nat) : sm F n * a = sm (fun i => F i * a) n := (sm_mulr a F n).symm
/-- the coefficients of a combination -/
theorem comb_co {S : Type} [Lean.Grind.CommRing S] {co : S → Nat → Int} (P : isPol co) (a b : S) (x : Nat → Int) (s t k : Nat) : co (sm (fun j => mo P (x j) j) s * a + sm (fun j => mo P (x (s + j)) j) t * b) k = sm (fun j => (if j < s then (if j ≤ k then co a (k - j) else 0) else (if j - s ≤ k then co b (k - (j - s)) else 0)) * x j) (s + t) := by
  rw [p_add P, sm_mul_l, sm_mul_l, sm_co P, sm_co P, sm_split]
  congr 1
  · refine sm_congr (fun j hj => ?_)
    rw [mo_mul P, if_pos hj]
    by_cases h : j ≤ k
    · rw [if_pos h, if_pos h]; grind
    · rw [if_neg h, if_neg h]; grind
  · refine sm_congr (fun j hj => ?_)
    rw [mo_mul P, if_neg (show ¬ s + j < s by omega), Nat.add_sub_cancel_left]
    by_cases h : j ≤ k
    · rw [if_pos h, if_pos h]; grind
    · rw [if_neg h, if_neg h]; grind
theorem row_l1 {S : Type} [Lean.Grind.CommRing S] {co : S → Nat → Int} (P : isPol co) (a b : S) (s t k : Nat) : sm (fun j => nz (if j < s then (if j ≤ k then co a (k - j) else 0) else (if j - s ≤ k then co b (k - (j - s)) else 0))) (s + t) ≤ l1 co a + l1 co b := by
  rw [sm_split]
  have h1 : sm (fun j => nz (if j < s then (if j ≤ k then co a (k - j) else 0) else (if j - s ≤ k then co b (k - (j - s)) else 0))) s = sm (fun j => nz (if j ≤ k then co a (k - j) else 0)) s := sm_congr (fun j hj => by rw [if_pos hj])
  have h2 : sm (fun i => nz (if s + i < s then (if s + i ≤ k then co a (k - (s + i)) else 0) else (if s + i - s ≤ k then co b (k - (s + i - s)) else 0))) t = sm (fun j => nz (if j ≤ k then co b (k - j) else 0)) t := sm_congr (fun j hj => by rw [if_neg (by omega), Nat.add_sub_cancel_left])
  rw [h1, h2]
  have := l1_win P a s k
  have := l1_win P b t k
  omega
theorem l1_nn {S : Type} [Lean.Grind.CommRing S] {co : S → Nat → Int} (P : isPol co) (a : S) : 0 ≤ l1 co a := sm_nn (fun i _ => nz_nn _)
theorem l1_pos {S : Type} [Lean.Grind.CommRing S] {co : S → Nat → Int} (P : isPol co) {a : S} (ha : a ≠ 0) : 1 ≤ l1 co a := by
  have h : nu co a ≠ 0 := fun q => ha ((nu_zero P).mp q)
  have h1 := nu_top P a h
  unfold l1
  rw [show nu co a = (nu co a - 1) + 1 by omega, sm_succ]
  have := sm_nn (f := fun i => nz (co a i)) (n := nu co a - 1) (fun i _ => nz_nn _)
  have : 1 ≤ nz (co a (nu co a - 1)) := by unfold nz; omega
  omega
theorem good_c {S : Type} [Lean.Grind.CommRing S] {co : S → Nat → Int} (P : isPol co) {a b g u0 v0 : S} {c0 : Int} (ha : a ≠ 0) (hb : b ≠ 0) (hga : dv g a) (hgb : dv g b) (hc0 : c0 ≠ 0) (he0 : mo P c0 0 * g = u0 * a + v0 * b) {B : Nat} (hB : l1 co a + l1 co b ≤ B) {E : Nat} (hE : nu co a + nu co b ≤ E + 2) (hE1 : 1 ≤ E) : ∃ (C : Int) (u v : S), C ≠ 0 ∧ C.natAbs ≤ B ^ E ∧ mo P C 0 * g = u * a + v * b := by
  have hB1 : 1 ≤ B := by have := l1_pos P ha; have := l1_nn P b; omega
  obtain ⟨a1, ha1⟩ := hga
  obtain ⟨b1, hb1⟩ := hgb
  have hg0 : g ≠ 0 := by intro q; apply ha; rw [ha1, q]; grind
  have ha10 : a1 ≠ 0 := by intro q; apply ha; rw [ha1, q]; grind
  have hb10 : b1 ≠ 0 := by intro q; apply hb; rw [hb1, q]; grind
  have na := nu_mul P int_D hg0 ha10
  have nb := nu_mul P int_D hg0 hb10
  rw [← ha1] at na
  rw [← hb1] at nb
  have ng0 : nu co g ≠ 0 := fun q => hg0 ((nu_zero P).mp q)
  have na0 : nu co a1 ≠ 0 := fun q => ha10 ((nu_zero P).mp q)
  have nb0 : nu co b1 ≠ 0 := fun q => hb10 ((nu_zero P).mp q)
  have hcop : mo P c0 0 = u0 * a1 + v0 * b1 := by
    have h1 : g * (mo P c0 0 - (u0 * a1 + v0 * b1)) = 0 := by rw [ha1, hb1] at he0; grind
    rcases z_dom P h1 with h2 | h2
    · exact absurd h2 hg0
    · grind
  by_cases hN : nu co a1 = 1 ∧ nu co b1 = 1
  · -- a is a whole number times g
    have h1 : a1 = mo P (co a1 0) 0 := p_ext P (fun i => by
      rw [mo_co P]
      by_cases h : i = 0
      · rw [if_pos h, h]
      · rw [if_neg h, nu_hi P a1 (by omega)])
    refine ⟨co a1 0, 1, 0, ?_, ?_, ?_⟩
    · have := nu_top P a1 na0
      rw [hN.1] at this
      exact this
    · have h2 : nz (co a1 0) ≤ l1 co a := by
        have h3 : nz (co a (nu co g - 1)) ≤ l1 co a := by
          have h4 := l1_any P a (nu co g - 1 + 1)
          rw [sm_succ] at h4
          have := sm_nn (f := fun i => nz (co a i)) (n := nu co g - 1) (fun i _ => nz_nn _)
          omega
        have h5 : co a (nu co g - 1) = co g (nu co g - 1) * co a1 0 := by
          have h6 := mul_top P (a := g) (b := a1) (n := nu co g - 1) (m := 0) (fun i hi => nu_hi P g (by omega)) (fun i hi => nu_hi P a1 (by omega))
          rw [← ha1, Nat.add_zero] at h6
          exact h6
        have h7 := nu_top P g ng0
        rw [h5, nz_mul] at h3
        have h8 : 1 * nz (co a1 0) ≤ nz (co g (nu co g - 1)) * nz (co a1 0) := Int.mul_le_mul_of_nonneg_right (by unfold nz; omega) (nz_nn _)
        omega
      have h9 : B ≤ B ^ E := by
        obtain ⟨e, rfl⟩ : ∃ e, E = e + 1 := ⟨E - 1, by omega⟩
        rw [Nat.pow_succ]
        calc B = 1 * B := (Nat.one_mul B).symm
          _ ≤ B ^ e * B := Nat.mul_le_mul_right B (Nat.pow_pos (by omega))
      have := l1_nn P b
      unfold nz at h2
      omega
    · rw [← h1, ha1]; grind
  · obtain ⟨M, hM⟩ : ∃ M, (nu co b1 - 1) + (nu co a1 - 1) = M + 1 := ⟨nu co b1 - 1 + (nu co a1 - 1) - 1, by
      have : ¬ (nu co a1 = 1 ∧ nu co b1 = 1) := hN
      omega⟩
    obtain ⟨x, ⟨j1, hj1, hx1⟩, hx2, hx3⟩ := siegel (m := M) (n := (nu co b1 - 1) + (nu co a1 - 1)) (A := fun e j => if j < nu co b1 - 1 then (if j ≤ nu co g + e then co a (nu co g + e - j) else 0) else (if j - (nu co b1 - 1) ≤ nu co g + e then co b (nu co g + e - (j - (nu co b1 - 1))) else 0)) (B := B) hB1 (by omega) (fun e _ => by
        have := row_l1 P a b (nu co b1 - 1) (nu co a1 - 1) (nu co g + e)
        exact Int.le_trans this hB)
    have hw := comb_co P a b x (nu co b1 - 1) (nu co a1 - 1)
    generalize hu : sm (fun j => mo P (x j) j) (nu co b1 - 1) = u at hw
    generalize hv : sm (fun j => mo P (x (nu co b1 - 1 + j)) j) (nu co a1 - 1) = v at hw
    have hcu : ∀ i, co u i = if i < nu co b1 - 1 then x i else 0 := by
      intro i
      rw [← hu, sm_co P]
      by_cases h : i < nu co b1 - 1
      · rw [if_pos h, sm_one (k := i) h (fun j _ hne => by rw [mo_co P, if_neg (fun q => hne q.symm)]), mo_co P, if_pos rfl]
      · rw [if_neg h, sm_zero (fun j hj => by rw [mo_co P, if_neg (by omega)])]
    have hcv : ∀ i, co v i = if i < nu co a1 - 1 then x (nu co b1 - 1 + i) else 0 := by
      intro i
      rw [← hv, sm_co P]
      by_cases h : i < nu co a1 - 1
      · rw [if_pos h, sm_one (k := i) h (fun j _ hne => by rw [mo_co P, if_neg (fun q => hne q.symm)]), mo_co P, if_pos rfl]
      · rw [if_neg h, sm_zero (fun j hj => by rw [mo_co P, if_neg (by omega)])]
    have huN : nu co u ≤ nu co b1 - 1 := nu_le P (fun i hi => by rw [hcu, if_neg (by omega)])
    have hvN : nu co v ≤ nu co a1 - 1 := nu_le P (fun i hi => by rw [hcv, if_neg (by omega)])
    have hwN : nu co (u * a + v * b) ≤ nu co g := by
      refine nu_le P (fun i hi => ?_)
      rcases Nat.lt_or_ge i (nu co g + M) with h | h
      · rw [hw]
        have := hx3 (i - nu co g) (by omega)
        rw [show nu co g + (i - nu co g) = i by omega] at this
        exact this
      · rw [p_add P, mul_hi P (fun j hj => nu_hi P u hj) (fun j hj => nu_hi P a hj) i (by omega), mul_hi P (fun j hj => nu_hi P v hj) (fun j hj => nu_hi P b hj) i (by omega)]
        grind
    have hw0 : u * a + v * b ≠ 0 := by
      intro hz
      have h1 : u * a1 + v * b1 = 0 := by
        have h2 : g * (u * a1 + v * b1) = 0 := by rw [ha1, hb1] at hz; grind
        rcases z_dom P h2 with h3 | h3
        · exact absurd h3 hg0
        · exact h3
      have h3 : mo P c0 0 * u = b1 * (u * v0 - u0 * v) := by rw [hcop]; grind
      have hu0 : u = 0 := by
        apply Classical.byContradiction
        intro hne
        have h4 : u * v0 - u0 * v ≠ 0 := by
          intro q
          rw [q] at h3
          rcases z_dom P (show mo P c0 0 * u = 0 by grind) with h5 | h5
          · have := (nu_zero P).mpr h5; rw [mo_N P 0 hc0] at this; omega
          · exact hne h5
        have h5 := nu_mul P int_D hb10 h4
        rw [← h3, z_N P hc0] at h5
        have h6 : nu co (u * v0 - u0 * v) ≠ 0 := fun q => h4 ((nu_zero P).mp q)
        omega
      have hv0 : v = 0 := by
        rw [hu0] at h1
        rcases z_dom P (show v * b1 = 0 by grind) with h5 | h5
        · exact h5
        · exact absurd h5 hb10
      apply hx1
      rcases Nat.lt_or_ge j1 (nu co b1 - 1) with h5 | h5
      · have := hcu j1
        rw [if_pos h5, hu0, p_zero P] at this
        exact this.symm
      · have := hcv (j1 - (nu co b1 - 1))
        rw [if_pos (by omega), hv0, p_zero P, show nu co b1 - 1 + (j1 - (nu co b1 - 1)) = j1 by omega] at this
        exact this.symm
    obtain ⟨k, hk⟩ : dv g (u * a + v * b) := ⟨u * a1 + v * b1, by rw [ha1, hb1]; grind⟩
    have hk0 : k ≠ 0 := by intro q; apply hw0; rw [hk, q]; grind
    have nk := nu_mul P int_D hg0 hk0
    rw [← hk] at nk
    have nk0 : nu co k ≠ 0 := fun q => hk0 ((nu_zero P).mp q)
    have hkc : k = mo P (co k 0) 0 := p_ext P (fun i => by
      rw [mo_co P]
      by_cases h : i = 0
      · rw [if_pos h, h]
      · rw [if_neg h, nu_hi P k (by omega)])
    have hC0 : co k 0 ≠ 0 := by
      have := nu_top P k nk0
      rw [show nu co k - 1 = 0 by omega] at this
      exact this
    refine ⟨co k 0, u, v, hC0, ?_, by rw [← hkc, hk]; grind⟩
    have h1 : co (u * a + v * b) (nu co g - 1) = co g (nu co g - 1) * co k 0 := by
      have h6 := mul_top P (a := g) (b := k) (n := nu co g - 1) (m := 0) (fun i hi => nu_hi P g (by omega)) (fun i hi => nu_hi P k (by omega))
      rw [← hk, Nat.add_zero] at h6
      exact h6
    have h2 : nz (co (u * a + v * b) (nu co g - 1)) ≤ (l1 co a + l1 co b) * ((B ^ M : Nat) : Int) := by
      rw [hw]
      refine Int.le_trans (sm_abs _) ?_
      have h3 := row_l1 P a b (nu co b1 - 1) (nu co a1 - 1) (nu co g - 1)
      refine Int.le_trans (sm_le (g := fun j => nz (if j < nu co b1 - 1 then (if j ≤ nu co g - 1 then co a (nu co g - 1 - j) else 0) else (if j - (nu co b1 - 1) ≤ nu co g - 1 then co b (nu co g - 1 - (j - (nu co b1 - 1))) else 0)) * ((B ^ M : Nat) : Int)) (fun j hj => ?_)) ?_
      · show nz _ ≤ _
        rw [nz_mul]
        refine Int.mul_le_mul_of_nonneg_left ?_ (nz_nn _)
        have := hx2 j hj
        unfold nz
        omega
      · rw [sm_mulr]
        exact Int.mul_le_mul_of_nonneg_right h3 (by omega)
    have h3 := nu_top P g ng0
    rw [h1, nz_mul] at h2
    have h4 : 1 * nz (co k 0) ≤ nz (co g (nu co g - 1)) * nz (co k 0) := Int.mul_le_mul_of_nonneg_right (by unfold nz; omega) (nz_nn _)
    have h5 : (l1 co a + l1 co b) * ((B ^ M : Nat) : Int) ≤ (B : Int) * ((B ^ M : Nat) : Int) := Int.mul_le_mul_of_nonneg_right hB (by omega)
    have h6 : (B : Int) * ((B ^ M : Nat) : Int) = ((B ^ (M + 1) : Nat) : Int) := by rw [Nat.pow_succ, Int.natCast_mul]; grind
    have h7 : B ^ (M + 1) ≤ B ^ E := Nat.pow_le_pow_right (by omega) (by omega)
    have h8 : nz (co k 0) = ((co k 0).natAbs : Int) := rfl
    omega
end MGood
