section MPrime
def tdv (n : Nat) : Nat → Bool
  | 0 => true
  | d + 1 => (decide (d + 1 < 2) || n % (d + 1) != 0) && tdv n d
theorem tdv_ok {n : Nat} : ∀ {k : Nat}, tdv n k = true → ∀ d, 2 ≤ d → d ≤ k → n % d ≠ 0
  | 0, _, d, h2, hk => by omega
  | k + 1, h, d, h2, hk => by
    simp only [tdv, Bool.and_eq_true, Bool.or_eq_true, decide_eq_true_eq, bne_iff_ne] at h
    rcases Nat.lt_or_ge d (k + 1) with q | q
    · exact tdv_ok h.2 d h2 (by omega)
    · have : d = k + 1 := by omega
      rw [this]
      rcases h.1 with z | z
      · omega
      · exact z
theorem prm_td {n k : Nat} (hn : 2 ≤ n) (hk : n < (k + 1) * (k + 1)) (h : tdv n k = true) : prm n := by
  apply Classical.byContradiction
  intro hp
  obtain ⟨q, hq, c, hc⟩ := prm_ex n hn
  have hq2 := hq.1
  have hc0 : c ≠ 0 := by intro z; rw [z] at hc; omega
  have hc1 : c ≠ 1 := by intro z; rw [z, Nat.mul_one] at hc; rw [hc] at hp; exact hp hq
  have td := tdv_ok h
  rcases Nat.lt_or_ge k q with z | z
  · rcases Nat.lt_or_ge k c with y | y
    · have : (k + 1) * (k + 1) ≤ q * c := Nat.mul_le_mul z y
      omega
    · exact td c (by omega) y (by rw [hc]; exact Nat.mul_mod_left q c)
  · exact td q hq2 z (by rw [hc]; exact Nat.mul_mod_right q c)
def pmod (n : Nat) : Nat → Nat → Nat → Nat
  | 0, _, _ => 1 % n
  | f + 1, a, e => if e = 0 then 1 % n else if e % 2 = 1 then a * pmod n f (a * a % n) (e / 2) % n else pmod n f (a * a % n) (e / 2)
theorem pmod_ok (n : Nat) : ∀ (f a e : Nat), e < 2 ^ f → pmod n f a e = a ^ e % n
  | 0, a, e, h => by
    have : e = 0 := by simp at h; exact h
    rw [this]; rfl
  | f + 1, a, e, h => by
    unfold pmod
    by_cases h0 : e = 0
    · rw [if_pos h0, h0]; rfl
    · rw [if_neg h0]
      have h1 : e / 2 < 2 ^ f := by rw [Nat.pow_succ] at h; omega
      have ih := pmod_ok n f (a * a % n) (e / 2) h1
      have e1 : (a * a % n) ^ (e / 2) % n = (a * a) ^ (e / 2) % n := (Nat.pow_mod (a * a) (e / 2) n).symm ▸ by rw [Nat.pow_mod (a * a % n), Nat.mod_mod, ← Nat.pow_mod]
      have e2 : (a * a) ^ (e / 2) = a ^ (2 * (e / 2)) := by rw [Nat.pow_mul, Nat.pow_two]
      by_cases h2 : e % 2 = 1
      · rw [if_pos h2, ih, e1, e2]
        rw [Nat.mul_mod_mod, ← Nat.pow_succ', show (2 * (e / 2)).succ = e by omega]
      · rw [if_neg h2, ih, e1, e2, show 2 * (e / 2) = e by omega]
theorem least_ord {q a : Nat} (hq : prm q) (ha : ¬ q ∣ a) : ∃ o, 0 < o ∧ o ∣ q - 1 ∧ a ^ o % q = 1 % q ∧ ∀ m, a ^ m % q = 1 % q → o ∣ m := by
  have hq2 := hq.1
  have hex : ∃ o, 0 < o ∧ a ^ o % q = 1 % q := by
    refine ⟨q - 1, by omega, ?_⟩
    have h1 := qm_inv hq (a := (a : Int)) (fun z => ha (Int.ofNat_dvd.mp z))
    have h2 : (a : Int) * (a : Int) ^ (q - 2) = ((a ^ (q - 1) : Nat) : Int) := by
      rw [show q - 1 = (q - 2) + 1 by omega, Nat.pow_succ, Int.natCast_mul, Int.natCast_pow]; grind
    rw [h2] at h1
    obtain ⟨c, hc⟩ := h1
    have h3 : ((a ^ (q - 1) : Nat) : Int) % (q : Int) = 1 % (q : Int) := by
      rw [show ((a ^ (q - 1) : Nat) : Int) = 1 + q * c by omega, Int.add_mul_emod_self_left]
    have h4 : ((a ^ (q - 1) % q : Nat) : Int) = ((1 % q : Nat) : Int) := by rw [Int.natCast_emod, Int.natCast_emod]; exact h3
    exact Int.ofNat.inj h4
  obtain ⟨o, ⟨ho, hao⟩, hmin⟩ := least hex
  have hdiv : ∀ m, a ^ m % q = 1 % q → o ∣ m := by
    intro m hm
    have h1 := Nat.div_add_mod m o
    have h2 := Nat.mod_lt m ho
    rcases Nat.eq_zero_or_pos (m % o) with z | z
    · exact Nat.dvd_of_mod_eq_zero z
    · exfalso
      refine hmin (m % o) h2 ⟨z, ?_⟩
      have h3 : a ^ m = (a ^ o) ^ (m / o) * a ^ (m % o) := by rw [← Nat.pow_mul, ← Nat.pow_add, h1]
      have h4 : (a ^ o) ^ (m / o) % q = 1 % q := by
        rw [Nat.pow_mod, hao, ← Nat.pow_mod, Nat.one_pow]
      rw [h3, Nat.mul_mod, h4, ← Nat.mul_mod, Nat.one_mul] at hm
      exact hm
  refine ⟨o, ho, ?_, hao, hdiv⟩
  refine hdiv (q - 1) ?_
  obtain ⟨o', ho', hao'⟩ := hex
  have h1 := qm_inv hq (a := (a : Int)) (fun z => ha (Int.ofNat_dvd.mp z))
  have h2 : (a : Int) * (a : Int) ^ (q - 2) = ((a ^ (q - 1) : Nat) : Int) := by
    rw [show q - 1 = (q - 2) + 1 by omega, Nat.pow_succ, Int.natCast_mul, Int.natCast_pow]; grind
  rw [h2] at h1
  obtain ⟨c, hc⟩ := h1
  have h3 : ((a ^ (q - 1) : Nat) : Int) % (q : Int) = 1 % (q : Int) := by
    rw [show ((a ^ (q - 1) : Nat) : Int) = 1 + q * c by omega, Int.add_mul_emod_self_left]
  have h4 : ((a ^ (q - 1) % q : Nat) : Int) = ((1 % q : Nat) : Int) := by rw [Int.natCast_emod, Int.natCast_emod]; exact h3
  exact Int.ofNat.inj h4
/-- r^k divides q - 1 for every prime q that divides n -/
theorem pock1 {n r k a f : Nat} (hn : 2 ≤ n) (hr : prm r) (hk : r ^ k ∣ n - 1) (hk1 : 1 ≤ k) (h1 : pmod n f a (n - 1) = 1) (hf : n < 2 ^ f) (h2 : Nat.gcd (pmod n f a ((n - 1) / r) + n - 1) n = 1) {q : Nat} (hq : prm q) (hqn : q ∣ n) : r ^ k ∣ q - 1 := by
  have hq2 := hq.1
  have hr2 := hr.1
  rw [pmod_ok n f a _ (by omega)] at h1
  have hrn : r ∣ n - 1 := Nat.dvd_trans (Nat.dvd_of_pow_dvd hk1 hk) (Nat.dvd_refl _)
  have hlt : (n - 1) / r < 2 ^ f := Nat.lt_of_le_of_lt (Nat.div_le_self _ _) (by omega)
  rw [pmod_ok n f a _ hlt] at h2
  have hqa : ¬ q ∣ a := by
    intro z
    have h3 : q ∣ a ^ (n - 1) := by
      rw [show n - 1 = (n - 2) + 1 by omega, Nat.pow_succ]
      exact Nat.dvd_trans z (Nat.dvd_mul_left a _)
    have h4 : q ∣ a ^ (n - 1) % n := (Nat.dvd_mod_iff hqn).mpr h3
    rw [h1] at h4
    have := Nat.le_of_dvd (by omega) h4
    omega
  obtain ⟨o, ho, hoq, hao, hdiv⟩ := least_ord hq hqa
  have hmodq : ∀ m, a ^ m % n % q = a ^ m % q := fun m => Nat.mod_mod_of_dvd _ hqn
  have ho1 : o ∣ n - 1 := hdiv (n - 1) (by rw [← hmodq, h1])
  have ho2 : ¬ o ∣ (n - 1) / r := by
    rintro ⟨t, ht⟩
    have h3 : a ^ ((n - 1) / r) % q = 1 % q := by
      rw [ht, Nat.pow_mul, Nat.pow_mod, hao, ← Nat.pow_mod, Nat.one_pow]
    have h4 : q ∣ a ^ ((n - 1) / r) % n + n - 1 := by
      have h5 : (a ^ ((n - 1) / r) % n) % q = 1 % q := by rw [hmodq]; exact h3
      have h6 : (a ^ ((n - 1) / r) % n + n) % q = 1 % q := by
        rw [Nat.add_mod, h5, Nat.mod_eq_zero_of_dvd hqn, Nat.add_zero, Nat.mod_mod]
      have h7 := Nat.div_add_mod (a ^ ((n - 1) / r) % n + n) q
      rw [h6, Nat.mod_eq_of_lt (show 1 < q by omega)] at h7
      exact ⟨(a ^ ((n - 1) / r) % n + n) / q, by omega⟩
    have h8 := Nat.dvd_gcd h4 hqn
    rw [h2] at h8
    have := Nat.le_of_dvd (by omega) h8
    omega
  obtain ⟨t, ht⟩ := ho1
  have hrt : ¬ r ∣ t := by
    rintro ⟨u, hu⟩
    apply ho2
    refine ⟨u, ?_⟩
    rw [ht, hu, show o * (r * u) = r * (o * u) by grind, Nat.mul_div_cancel_left _ (by omega)]
  have hcop : Nat.Coprime (r ^ k) t := by
    refine Nat.Coprime.pow_left k ?_
    rcases hr.2 (Nat.gcd r t) (Nat.gcd_dvd_left r t) with z | z
    · exact z
    · exact absurd (by rw [← z]; exact Nat.gcd_dvd_right r t) hrt
  rw [ht] at hk
  exact Nat.dvd_trans (Nat.Coprime.dvd_of_dvd_mul_right hcop hk) hoq
theorem pock2 {n F : Nat} (hn : 2 ≤ n) (hF : n < F * F) (h : ∀ q, prm q → q ∣ n → F ∣ q - 1) : prm n := by
  apply Classical.byContradiction
  intro hp
  obtain ⟨q, hq, c, hc⟩ := prm_ex n hn
  have hq2 := hq.1
  have hc0 : c ≠ 0 := by intro z; rw [z] at hc; omega
  have hc1 : c ≠ 1 := by intro z; rw [z, Nat.mul_one] at hc; rw [hc] at hp; exact hp hq
  obtain ⟨s, hs, hsc⟩ := prm_ex c (by omega)
  have hs2 := hs.1
  have a1 := Nat.le_of_dvd (by omega) (h q hq ⟨c, hc⟩)
  have a2 := Nat.le_of_dvd (by omega) (h s hs (Nat.dvd_trans hsc ⟨q, by rw [hc]; exact Nat.mul_comm _ _⟩))
  have a3 := Nat.le_of_dvd (by omega) hsc
  have : F * F ≤ q * c := Nat.mul_le_mul (by omega) (by omega)
  omega
set_option maxRecDepth 100000 in
theorem pr_16777259 : prm 16777259 := prm_td (k := 4096) (by omega) (by omega) (by decide +kernel)
set_option maxRecDepth 100000 in
theorem pr_16777289 : prm 16777289 := prm_td (k := 4096) (by omega) (by omega) (by decide +kernel)
set_option maxRecDepth 100000 in
theorem pr_16777291 : prm 16777291 := prm_td (k := 4096) (by omega) (by omega) (by decide +kernel)
set_option maxRecDepth 100000 in
theorem pr_16777331 : prm 16777331 := prm_td (k := 4096) (by omega) (by omega) (by decide +kernel)
set_option maxRecDepth 100000 in
theorem pr_16777333 : prm 16777333 := prm_td (k := 4096) (by omega) (by omega) (by decide +kernel)
set_option maxRecDepth 100000 in
theorem pr_16777337 : prm 16777337 := prm_td (k := 4096) (by omega) (by omega) (by decide +kernel)
set_option maxRecDepth 100000 in
theorem pr_16777381 : prm 16777381 := prm_td (k := 4096) (by omega) (by omega) (by decide +kernel)
set_option maxRecDepth 100000 in
theorem pr_16777421 : prm 16777421 := prm_td (k := 4096) (by omega) (by omega) (by decide +kernel)
set_option maxRecDepth 100000 in
theorem pr_16777441 : prm 16777441 := prm_td (k := 4096) (by omega) (by omega) (by decide +kernel)
set_option maxRecDepth 100000 in
theorem pr_16777447 : prm 16777447 := prm_td (k := 4096) (by omega) (by omega) (by decide +kernel)
set_option maxRecDepth 100000 in
theorem pr_16777469 : prm 16777469 := prm_td (k := 4096) (by omega) (by omega) (by decide +kernel)
set_option maxRecDepth 100000 in
theorem pr_16777499 : prm 16777499 := prm_td (k := 4096) (by omega) (by omega) (by decide +kernel)
set_option maxRecDepth 100000 in
theorem pr_16777507 : prm 16777507 := prm_td (k := 4096) (by omega) (by omega) (by decide +kernel)
set_option maxRecDepth 100000 in
theorem pr_16777531 : prm 16777531 := prm_td (k := 4096) (by omega) (by omega) (by decide +kernel)
set_option maxRecDepth 100000 in
theorem pr_16777571 : prm 16777571 := prm_td (k := 4096) (by omega) (by omega) (by decide +kernel)
set_option maxRecDepth 100000 in
theorem pr_16777577 : prm 16777577 := prm_td (k := 4096) (by omega) (by omega) (by decide +kernel)
set_option maxRecDepth 100000 in
theorem pr_11 : prm 11 := prm_td (k := 3) (by omega) (by omega) (by decide +kernel)
set_option maxRecDepth 100000 in
theorem pr_124847 : prm 124847 := prm_td (k := 353) (by omega) (by omega) (by decide +kernel)
theorem pr_999999999989 : prm 999999999989 := by
  refine pock2 (F := 1373317) (by omega) (by omega) (fun q hq hd => ?_)
  have h11 : 11 ^ 1 ∣ q - 1 := pock1 (n := 999999999989) (r := 11) (k := 1) (a := 2) (f := 40) (by omega) pr_11 (by decide +kernel) (by omega) (by decide +kernel) (by decide +kernel) (by decide +kernel) hq hd
  have h124847 : 124847 ^ 1 ∣ q - 1 := pock1 (n := 999999999989) (r := 124847) (k := 1) (a := 2) (f := 40) (by omega) pr_124847 (by decide +kernel) (by omega) (by decide +kernel) (by decide +kernel) (by decide +kernel) hq hd
  exact Nat.Coprime.mul_dvd_of_dvd_of_dvd (show Nat.Coprime _ _ by decide +kernel) (h11) h124847
set_option maxRecDepth 100000 in
theorem pr_2 : prm 2 := prm_td (k := 1) (by omega) (by omega) (by decide +kernel)
set_option maxRecDepth 100000 in
theorem pr_3 : prm 3 := prm_td (k := 1) (by omega) (by omega) (by decide +kernel)
set_option maxRecDepth 100000 in
theorem pr_13 : prm 13 := prm_td (k := 3) (by omega) (by omega) (by decide +kernel)
set_option maxRecDepth 100000 in
theorem pr_7477 : prm 7477 := prm_td (k := 86) (by omega) (by omega) (by decide +kernel)
theorem pr_999999999961 : prm 999999999961 := by
  refine pock2 (F := 2332824) (by omega) (by omega) (fun q hq hd => ?_)
  have h2 : 2 ^ 3 ∣ q - 1 := pock1 (n := 999999999961) (r := 2) (k := 3) (a := 11) (f := 40) (by omega) pr_2 (by decide +kernel) (by omega) (by decide +kernel) (by decide +kernel) (by decide +kernel) hq hd
  have h3 : 3 ^ 1 ∣ q - 1 := pock1 (n := 999999999961) (r := 3) (k := 1) (a := 3) (f := 40) (by omega) pr_3 (by decide +kernel) (by omega) (by decide +kernel) (by decide +kernel) (by decide +kernel) hq hd
  have h13 : 13 ^ 1 ∣ q - 1 := pock1 (n := 999999999961) (r := 13) (k := 1) (a := 2) (f := 40) (by omega) pr_13 (by decide +kernel) (by omega) (by decide +kernel) (by decide +kernel) (by decide +kernel) hq hd
  have h7477 : 7477 ^ 1 ∣ q - 1 := pock1 (n := 999999999961) (r := 7477) (k := 1) (a := 2) (f := 40) (by omega) pr_7477 (by decide +kernel) (by omega) (by decide +kernel) (by decide +kernel) (by decide +kernel) hq hd
  exact Nat.Coprime.mul_dvd_of_dvd_of_dvd (show Nat.Coprime _ _ by decide +kernel) (Nat.Coprime.mul_dvd_of_dvd_of_dvd (show Nat.Coprime _ _ by decide +kernel) (Nat.Coprime.mul_dvd_of_dvd_of_dvd (show Nat.Coprime _ _ by decide +kernel) (h2) h3) h13) h7477
set_option maxRecDepth 100000 in
theorem pr_139 : prm 139 := prm_td (k := 11) (by omega) (by omega) (by decide +kernel)
set_option maxRecDepth 100000 in
theorem pr_151 : prm 151 := prm_td (k := 12) (by omega) (by omega) (by decide +kernel)
set_option maxRecDepth 100000 in
theorem pr_1973 : prm 1973 := prm_td (k := 44) (by omega) (by omega) (by decide +kernel)
theorem pr_499999999979 : prm 499999999979 := by
  refine pock2 (F := 41411297) (by omega) (by omega) (fun q hq hd => ?_)
  have h139 : 139 ^ 1 ∣ q - 1 := pock1 (n := 499999999979) (r := 139) (k := 1) (a := 2) (f := 39) (by omega) pr_139 (by decide +kernel) (by omega) (by decide +kernel) (by decide +kernel) (by decide +kernel) hq hd
  have h151 : 151 ^ 1 ∣ q - 1 := pock1 (n := 499999999979) (r := 151) (k := 1) (a := 2) (f := 39) (by omega) pr_151 (by decide +kernel) (by omega) (by decide +kernel) (by decide +kernel) (by decide +kernel) hq hd
  have h1973 : 1973 ^ 1 ∣ q - 1 := pock1 (n := 499999999979) (r := 1973) (k := 1) (a := 2) (f := 39) (by omega) pr_1973 (by decide +kernel) (by omega) (by decide +kernel) (by decide +kernel) (by decide +kernel) hq hd
  exact Nat.Coprime.mul_dvd_of_dvd_of_dvd (show Nat.Coprime _ _ by decide +kernel) (Nat.Coprime.mul_dvd_of_dvd_of_dvd (show Nat.Coprime _ _ by decide +kernel) (h139) h151) h1973
theorem pr_999999999959 : prm 999999999959 := by
  refine pock2 (F := 499999999979) (by omega) (by omega) (fun q hq hd => ?_)
  have h499999999979 : 499999999979 ^ 1 ∣ q - 1 := pock1 (n := 999999999959) (r := 499999999979) (k := 1) (a := 2) (f := 40) (by omega) pr_499999999979 (by decide +kernel) (by omega) (by decide +kernel) (by decide +kernel) (by decide +kernel) hq hd
  exact h499999999979
set_option maxRecDepth 100000 in
theorem pr_7 : prm 7 := prm_td (k := 2) (by omega) (by omega) (by decide +kernel)
set_option maxRecDepth 100000 in
theorem pr_17 : prm 17 := prm_td (k := 4) (by omega) (by omega) (by decide +kernel)
set_option maxRecDepth 100000 in
theorem pr_19 : prm 19 := prm_td (k := 4) (by omega) (by omega) (by decide +kernel)
theorem pr_999999999937 : prm 999999999937 := by
  refine pock2 (F := 1012928) (by omega) (by omega) (fun q hq hd => ?_)
  have h2 : 2 ^ 6 ∣ q - 1 := pock1 (n := 999999999937) (r := 2) (k := 6) (a := 5) (f := 40) (by omega) pr_2 (by decide +kernel) (by omega) (by decide +kernel) (by decide +kernel) (by decide +kernel) hq hd
  have h7 : 7 ^ 2 ∣ q - 1 := pock1 (n := 999999999937) (r := 7) (k := 2) (a := 3) (f := 40) (by omega) pr_7 (by decide +kernel) (by omega) (by decide +kernel) (by decide +kernel) (by decide +kernel) hq hd
  have h17 : 17 ^ 1 ∣ q - 1 := pock1 (n := 999999999937) (r := 17) (k := 1) (a := 2) (f := 40) (by omega) pr_17 (by decide +kernel) (by omega) (by decide +kernel) (by decide +kernel) (by decide +kernel) hq hd
  have h19 : 19 ^ 1 ∣ q - 1 := pock1 (n := 999999999937) (r := 19) (k := 1) (a := 2) (f := 40) (by omega) pr_19 (by decide +kernel) (by omega) (by decide +kernel) (by decide +kernel) (by decide +kernel) hq hd
  exact Nat.Coprime.mul_dvd_of_dvd_of_dvd (show Nat.Coprime _ _ by decide +kernel) (Nat.Coprime.mul_dvd_of_dvd_of_dvd (show Nat.Coprime _ _ by decide +kernel) (Nat.Coprime.mul_dvd_of_dvd_of_dvd (show Nat.Coprime _ _ by decide +kernel) (h2) h7) h17) h19
theorem pr_260552371 : prm 260552371 := by
  refine pock2 (F := 17238) (by omega) (by omega) (fun q hq hd => ?_)
  have h2 : 2 ^ 1 ∣ q - 1 := pock1 (n := 260552371) (r := 2) (k := 1) (a := 2) (f := 28) (by omega) pr_2 (by decide +kernel) (by omega) (by decide +kernel) (by decide +kernel) (by decide +kernel) hq hd
  have h3 : 3 ^ 1 ∣ q - 1 := pock1 (n := 260552371) (r := 3) (k := 1) (a := 2) (f := 28) (by omega) pr_3 (by decide +kernel) (by omega) (by decide +kernel) (by decide +kernel) (by decide +kernel) hq hd
  have h13 : 13 ^ 2 ∣ q - 1 := pock1 (n := 260552371) (r := 13) (k := 2) (a := 2) (f := 28) (by omega) pr_13 (by decide +kernel) (by omega) (by decide +kernel) (by decide +kernel) (by decide +kernel) hq hd
  have h17 : 17 ^ 1 ∣ q - 1 := pock1 (n := 260552371) (r := 17) (k := 1) (a := 2) (f := 28) (by omega) pr_17 (by decide +kernel) (by omega) (by decide +kernel) (by decide +kernel) (by decide +kernel) hq hd
  exact Nat.Coprime.mul_dvd_of_dvd_of_dvd (show Nat.Coprime _ _ by decide +kernel) (Nat.Coprime.mul_dvd_of_dvd_of_dvd (show Nat.Coprime _ _ by decide +kernel) (Nat.Coprime.mul_dvd_of_dvd_of_dvd (show Nat.Coprime _ _ by decide +kernel) (h2) h3) h13) h17
theorem pr_999999999899 : prm 999999999899 := by
  refine pock2 (F := 260552371) (by omega) (by omega) (fun q hq hd => ?_)
  have h260552371 : 260552371 ^ 1 ∣ q - 1 := pock1 (n := 999999999899) (r := 260552371) (k := 1) (a := 2) (f := 40) (by omega) pr_260552371 (by decide +kernel) (by omega) (by decide +kernel) (by decide +kernel) (by decide +kernel) hq hd
  exact h260552371
set_option maxRecDepth 100000 in
theorem pr_1165273 : prm 1165273 := prm_td (k := 1079) (by omega) (by omega) (by decide +kernel)
theorem pr_83333333323 : prm 83333333323 := by
  refine pock2 (F := 1165273) (by omega) (by omega) (fun q hq hd => ?_)
  have h1165273 : 1165273 ^ 1 ∣ q - 1 := pock1 (n := 83333333323) (r := 1165273) (k := 1) (a := 2) (f := 37) (by omega) pr_1165273 (by decide +kernel) (by omega) (by decide +kernel) (by decide +kernel) (by decide +kernel) hq hd
  exact h1165273
theorem pr_999999999877 : prm 999999999877 := by
  refine pock2 (F := 83333333323) (by omega) (by omega) (fun q hq hd => ?_)
  have h83333333323 : 83333333323 ^ 1 ∣ q - 1 := pock1 (n := 999999999877) (r := 83333333323) (k := 1) (a := 2) (f := 40) (by omega) pr_83333333323 (by decide +kernel) (by omega) (by decide +kernel) (by decide +kernel) (by decide +kernel) hq hd
  exact h83333333323
set_option maxRecDepth 100000 in
theorem pr_153343 : prm 153343 := prm_td (k := 391) (by omega) (by omega) (by decide +kernel)
theorem pr_2793296089 : prm 2793296089 := by
  refine pock2 (F := 153343) (by omega) (by omega) (fun q hq hd => ?_)
  have h153343 : 153343 ^ 1 ∣ q - 1 := pock1 (n := 2793296089) (r := 153343) (k := 1) (a := 2) (f := 32) (by omega) pr_153343 (by decide +kernel) (by omega) (by decide +kernel) (by decide +kernel) (by decide +kernel) hq hd
  exact h153343
theorem pr_999999999863 : prm 999999999863 := by
  refine pock2 (F := 2793296089) (by omega) (by omega) (fun q hq hd => ?_)
  have h2793296089 : 2793296089 ^ 1 ∣ q - 1 := pock1 (n := 999999999863) (r := 2793296089) (k := 1) (a := 2) (f := 40) (by omega) pr_2793296089 (by decide +kernel) (by omega) (by decide +kernel) (by decide +kernel) (by decide +kernel) hq hd
  exact h2793296089
set_option maxRecDepth 100000 in
theorem pr_19231 : prm 19231 := prm_td (k := 138) (by omega) (by omega) (by decide +kernel)
theorem pr_999999999857 : prm 999999999857 := by
  refine pock2 (F := 3384656) (by omega) (by omega) (fun q hq hd => ?_)
  have h2 : 2 ^ 4 ∣ q - 1 := pock1 (n := 999999999857) (r := 2) (k := 4) (a := 3) (f := 40) (by omega) pr_2 (by decide +kernel) (by omega) (by decide +kernel) (by decide +kernel) (by decide +kernel) hq hd
  have h11 : 11 ^ 1 ∣ q - 1 := pock1 (n := 999999999857) (r := 11) (k := 1) (a := 2) (f := 40) (by omega) pr_11 (by decide +kernel) (by omega) (by decide +kernel) (by decide +kernel) (by decide +kernel) hq hd
  have h19231 : 19231 ^ 1 ∣ q - 1 := pock1 (n := 999999999857) (r := 19231) (k := 1) (a := 2) (f := 40) (by omega) pr_19231 (by decide +kernel) (by omega) (by decide +kernel) (by decide +kernel) (by decide +kernel) hq hd
  exact Nat.Coprime.mul_dvd_of_dvd_of_dvd (show Nat.Coprime _ _ by decide +kernel) (Nat.Coprime.mul_dvd_of_dvd_of_dvd (show Nat.Coprime _ _ by decide +kernel) (h2) h11) h19231
set_option maxRecDepth 100000 in
theorem pr_3879307 : prm 3879307 := prm_td (k := 1969) (by omega) (by omega) (by decide +kernel)
theorem pr_999999999847 : prm 999999999847 := by
  refine pock2 (F := 3879307) (by omega) (by omega) (fun q hq hd => ?_)
  have h3879307 : 3879307 ^ 1 ∣ q - 1 := pock1 (n := 999999999847) (r := 3879307) (k := 1) (a := 2) (f := 40) (by omega) pr_3879307 (by decide +kernel) (by omega) (by decide +kernel) (by decide +kernel) (by decide +kernel) hq hd
  exact h3879307
set_option maxRecDepth 100000 in
theorem pr_260189 : prm 260189 := prm_td (k := 510) (by omega) (by omega) (by decide +kernel)
theorem pr_245098039 : prm 245098039 := by
  refine pock2 (F := 260189) (by omega) (by omega) (fun q hq hd => ?_)
  have h260189 : 260189 ^ 1 ∣ q - 1 := pock1 (n := 245098039) (r := 260189) (k := 1) (a := 2) (f := 28) (by omega) pr_260189 (by decide +kernel) (by omega) (by decide +kernel) (by decide +kernel) (by decide +kernel) hq hd
  exact h260189
theorem pr_2450980391 : prm 2450980391 := by
  refine pock2 (F := 245098039) (by omega) (by omega) (fun q hq hd => ?_)
  have h245098039 : 245098039 ^ 1 ∣ q - 1 := pock1 (n := 2450980391) (r := 245098039) (k := 1) (a := 2) (f := 32) (by omega) pr_245098039 (by decide +kernel) (by omega) (by decide +kernel) (by decide +kernel) (by decide +kernel) hq hd
  exact h245098039
theorem pr_4901960783 : prm 4901960783 := by
  refine pock2 (F := 2450980391) (by omega) (by omega) (fun q hq hd => ?_)
  have h2450980391 : 2450980391 ^ 1 ∣ q - 1 := pock1 (n := 4901960783) (r := 2450980391) (k := 1) (a := 2) (f := 33) (by omega) pr_2450980391 (by decide +kernel) (by omega) (by decide +kernel) (by decide +kernel) (by decide +kernel) hq hd
  exact h2450980391
theorem pr_29411764699 : prm 29411764699 := by
  refine pock2 (F := 4901960783) (by omega) (by omega) (fun q hq hd => ?_)
  have h4901960783 : 4901960783 ^ 1 ∣ q - 1 := pock1 (n := 29411764699) (r := 4901960783) (k := 1) (a := 2) (f := 35) (by omega) pr_4901960783 (by decide +kernel) (by omega) (by decide +kernel) (by decide +kernel) (by decide +kernel) hq hd
  exact h4901960783
theorem pr_999999999767 : prm 999999999767 := by
  refine pock2 (F := 29411764699) (by omega) (by omega) (fun q hq hd => ?_)
  have h29411764699 : 29411764699 ^ 1 ∣ q - 1 := pock1 (n := 999999999767) (r := 29411764699) (k := 1) (a := 2) (f := 40) (by omega) pr_29411764699 (by decide +kernel) (by omega) (by decide +kernel) (by decide +kernel) (by decide +kernel) hq hd
  exact h29411764699
set_option maxRecDepth 100000 in
theorem pr_3410269 : prm 3410269 := prm_td (k := 1846) (by omega) (by omega) (by decide +kernel)
theorem pr_3355704697 : prm 3355704697 := by
  refine pock2 (F := 3410269) (by omega) (by omega) (fun q hq hd => ?_)
  have h3410269 : 3410269 ^ 1 ∣ q - 1 := pock1 (n := 3355704697) (r := 3410269) (k := 1) (a := 2) (f := 32) (by omega) pr_3410269 (by decide +kernel) (by omega) (by decide +kernel) (by decide +kernel) (by decide +kernel) hq hd
  exact h3410269
theorem pr_999999999707 : prm 999999999707 := by
  refine pock2 (F := 3355704697) (by omega) (by omega) (fun q hq hd => ?_)
  have h3355704697 : 3355704697 ^ 1 ∣ q - 1 := pock1 (n := 999999999707) (r := 3355704697) (k := 1) (a := 2) (f := 40) (by omega) pr_3355704697 (by decide +kernel) (by omega) (by decide +kernel) (by decide +kernel) (by decide +kernel) hq hd
  exact h3355704697
set_option maxRecDepth 100000 in
theorem pr_101 : prm 101 := prm_td (k := 10) (by omega) (by omega) (by decide +kernel)
set_option maxRecDepth 100000 in
theorem pr_1823 : prm 1823 := prm_td (k := 42) (by omega) (by omega) (by decide +kernel)
theorem pr_999999999697 : prm 999999999697 := by
  refine pock2 (F := 2945968) (by omega) (by omega) (fun q hq hd => ?_)
  have h2 : 2 ^ 4 ∣ q - 1 := pock1 (n := 999999999697) (r := 2) (k := 4) (a := 5) (f := 40) (by omega) pr_2 (by decide +kernel) (by omega) (by decide +kernel) (by decide +kernel) (by decide +kernel) hq hd
  have h101 : 101 ^ 1 ∣ q - 1 := pock1 (n := 999999999697) (r := 101) (k := 1) (a := 2) (f := 40) (by omega) pr_101 (by decide +kernel) (by omega) (by decide +kernel) (by decide +kernel) (by decide +kernel) hq hd
  have h1823 : 1823 ^ 1 ∣ q - 1 := pock1 (n := 999999999697) (r := 1823) (k := 1) (a := 2) (f := 40) (by omega) pr_1823 (by decide +kernel) (by omega) (by decide +kernel) (by decide +kernel) (by decide +kernel) hq hd
  exact Nat.Coprime.mul_dvd_of_dvd_of_dvd (show Nat.Coprime _ _ by decide +kernel) (Nat.Coprime.mul_dvd_of_dvd_of_dvd (show Nat.Coprime _ _ by decide +kernel) (h2) h101) h1823
set_option maxRecDepth 100000 in
theorem pr_172890733 : prm 172890733 := prm_td (k := 13148) (by omega) (by omega) (by decide +kernel)
theorem pr_999999999673 : prm 999999999673 := by
  refine pock2 (F := 172890733) (by omega) (by omega) (fun q hq hd => ?_)
  have h172890733 : 172890733 ^ 1 ∣ q - 1 := pock1 (n := 999999999673) (r := 172890733) (k := 1) (a := 2) (f := 40) (by omega) pr_172890733 (by decide +kernel) (by omega) (by decide +kernel) (by decide +kernel) (by decide +kernel) hq hd
  exact h172890733
end MPrime
