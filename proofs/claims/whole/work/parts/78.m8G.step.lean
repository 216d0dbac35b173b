/-! Stepanov: a product of two irreducible rows isn't a square at all places -/
section MStep
def wT {R T : Type} [Lean.Grind.CommRing R] [Lean.Grind.CommRing T] (ct : T → Nat → R) (D : Nat) (a : T) : Prop := nu ct a ≤ D + 1
def wU {R T U : Type} [Lean.Grind.CommRing R] [Lean.Grind.CommRing T] [Lean.Grind.CommRing U] (ct : T → Nat → R) (cu : U → Nat → T) (D : Nat) (u : U) : Prop := ∀ i, wT ct D (cu u i)
theorem wT_0 {R T : Type} [Lean.Grind.CommRing R] [Lean.Grind.CommRing T] {ct : T → Nat → R} (K : isPol ct) (D : Nat) : wT ct D 0 := by unfold wT; rw [(nu_zero K).mpr rfl]; omega
theorem wT_1 {R T : Type} [Lean.Grind.CommRing R] [Lean.Grind.CommRing T] {ct : T → Nat → R} (K : isPol ct) (D : Nat) : wT ct D 1 := nu_le K (fun i hi => by rw [p_one K, if_neg (by omega)])
theorem wT_l {R T : Type} [Lean.Grind.CommRing R] [Lean.Grind.CommRing T] {ct : T → Nat → R} {D E : Nat} {a : T} (h : D ≤ E) (ha : wT ct D a) : wT ct E a := by unfold wT at *; omega
theorem wT_m {R T : Type} [Lean.Grind.CommRing R] [Lean.Grind.CommRing T] {ct : T → Nat → R} (K : isPol ct) {D E : Nat} {a b : T} (ha : wT ct D a) (hb : wT ct E b) : wT ct (D + E) (a * b) := nu_le K (fun i hi => by
  unfold wT at ha hb
  exact mul_hi K (n := D + 1) (m := E + 1) (fun j hj => nu_hi K a (by omega)) (fun j hj => nu_hi K b (by omega)) i (by omega))
theorem wT_a {R T : Type} [Lean.Grind.CommRing R] [Lean.Grind.CommRing T] {ct : T → Nat → R} (K : isPol ct) {D : Nat} {a b : T} (ha : wT ct D a) (hb : wT ct D b) : wT ct D (a + b) := nu_le K (fun i hi => by
  unfold wT at ha hb
  rw [p_add K, nu_hi K a (by omega), nu_hi K b (by omega)]; grind)
theorem wT_s {R T : Type} [Lean.Grind.CommRing R] [Lean.Grind.CommRing T] {ct : T → Nat → R} (K : isPol ct) {D : Nat} {a b : T} (ha : wT ct D a) (hb : wT ct D b) : wT ct D (a - b) := nu_le K (fun i hi => by
  unfold wT at ha hb
  rw [p_sub K, nu_hi K a (by omega), nu_hi K b (by omega)]; grind)
theorem wT_sm {R T : Type} [Lean.Grind.CommRing R] [Lean.Grind.CommRing T] {ct : T → Nat → R} (K : isPol ct) {D : Nat} {F : Nat → T} : ∀ {n : Nat}, (∀ i, i < n → wT ct D (F i)) → wT ct D (sm F n)
  | 0, _ => wT_0 K D
  | n + 1, h => wT_a K (wT_sm K (fun i hi => h i (by omega))) (h n (by omega))
theorem wT_p {R T : Type} [Lean.Grind.CommRing R] [Lean.Grind.CommRing T] {ct : T → Nat → R} (K : isPol ct) {D : Nat} {a : T} (ha : wT ct D a) : ∀ (n : Nat), wT ct (D * n) (a ^ n)
  | 0 => by rw [pw_zero]; exact wT_1 K _
  | n + 1 => by rw [pw_succ, Nat.mul_succ]; exact wT_m K (wT_p K ha n) ha
theorem wT_mo {R T : Type} [Lean.Grind.CommRing R] [Lean.Grind.CommRing T] {ct : T → Nat → R} (K : isPol ct) (c : R) (k : Nat) : wT ct k (mo K c k) := nu_le K (fun i hi => by rw [mo_co K, if_neg (by omega)])
theorem wU_l {R T U : Type} [Lean.Grind.CommRing R] [Lean.Grind.CommRing T] [Lean.Grind.CommRing U] {ct : T → Nat → R} {cu : U → Nat → T} {D E : Nat} {a : U} (h : D ≤ E) (ha : wU ct cu D a) : wU ct cu E a := fun i => wT_l h (ha i)
theorem wU_m {R T U : Type} [Lean.Grind.CommRing R] [Lean.Grind.CommRing T] [Lean.Grind.CommRing U] {ct : T → Nat → R} (K : isPol ct) {cu : U → Nat → T} (Q : isPol cu) {D E : Nat} {a b : U} (ha : wU ct cu D a) (hb : wU ct cu E b) : wU ct cu (D + E) (a * b) := fun i => by
  rw [p_mul Q]
  exact wT_sm K (fun j _ => wT_m K (ha j) (hb _))
theorem wU_a {R T U : Type} [Lean.Grind.CommRing R] [Lean.Grind.CommRing T] [Lean.Grind.CommRing U] {ct : T → Nat → R} (K : isPol ct) {cu : U → Nat → T} (Q : isPol cu) {D : Nat} {a b : U} (ha : wU ct cu D a) (hb : wU ct cu D b) : wU ct cu D (a + b) := fun i => by
  rw [p_add Q]; exact wT_a K (ha i) (hb i)
theorem wU_s {R T U : Type} [Lean.Grind.CommRing R] [Lean.Grind.CommRing T] [Lean.Grind.CommRing U] {ct : T → Nat → R} (K : isPol ct) {cu : U → Nat → T} (Q : isPol cu) {D : Nat} {a b : U} (ha : wU ct cu D a) (hb : wU ct cu D b) : wU ct cu D (a - b) := fun i => by
  rw [p_sub Q]; exact wT_s K (ha i) (hb i)
theorem wU_mo {R T U : Type} [Lean.Grind.CommRing R] [Lean.Grind.CommRing T] [Lean.Grind.CommRing U] {ct : T → Nat → R} (K : isPol ct) {cu : U → Nat → T} (Q : isPol cu) {D : Nat} {c : T} (hc : wT ct D c) (k : Nat) : wU ct cu D (mo Q c k) := fun i => by
  rw [mo_co Q]
  by_cases h : i = k
  · rw [if_pos h]; exact hc
  · rw [if_neg h]; exact wT_0 K D
theorem wU_p {R T U : Type} [Lean.Grind.CommRing R] [Lean.Grind.CommRing T] [Lean.Grind.CommRing U] {ct : T → Nat → R} (K : isPol ct) {cu : U → Nat → T} (Q : isPol cu) {D : Nat} {a : U} (ha : wU ct cu D a) : ∀ (n : Nat), wU ct cu (D * n) (a ^ n)
  | 0 => by rw [pw_zero, ← mo_one Q]; exact wU_mo K Q (wT_1 K _) 0
  | n + 1 => by rw [pw_succ, Nat.mul_succ]; exact wU_m K Q (wU_p K Q ha n) ha
theorem wU_sm {R T U : Type} [Lean.Grind.CommRing R] [Lean.Grind.CommRing T] [Lean.Grind.CommRing U] {ct : T → Nat → R} (K : isPol ct) {cu : U → Nat → T} (Q : isPol cu) {D : Nat} {F : Nat → U} : ∀ {n : Nat}, (∀ i, i < n → wU ct cu D (F i)) → wU ct cu D (sm F n)
  | 0, _ => fun i => by show wT ct D (cu 0 i); rw [p_zero Q]; exact wT_0 K D
  | n + 1, h => wU_a K Q (wU_sm K Q (fun i hi => h i (by omega))) (h n (by omega))
theorem shf {R S : Type} [Lean.Grind.CommRing R] [Lean.Grind.CommRing S] {co : S → Nat → R} (P : isPol co) (u : S) : ∃ v, (∀ i, co v i = co u (i + 1)) ∧ ∀ y, eq P u y = co u 0 + y * eq P v y := by
  obtain ⟨v, hv⟩ := P.2.2.2.2.1 (fun i => co u (i + 1)) (nu co u) (fun i hi => nu_hi P u (by omega))
  refine ⟨v, hv, fun y => ?_⟩
  rw [eq_n P u y (show nu co u ≤ nu co u + 1 by omega), eq_n P v y (show nu co v ≤ nu co u from nu_le P (fun i hi => by rw [hv]; exact nu_hi P u (by omega))), sm_front, pw_zero, ← sm_mul]
  rw [sm_congr (f := fun i => co u (i + 1) * y ^ (i + 1)) (g := fun i => y * (co v i * y ^ i)) (fun i _ => by rw [hv, pw_succ]; grind)]
  grind
theorem small0 {R T : Type} [Lean.Grind.CommRing R] [Lean.Grind.CommRing T] {ct : T → Nat → R} (K : isPol ct) (hF : isF R) {s a : T} {D : Nat} (ha : wT ct D a) (hs : D + 1 < nu ct s) (h : dv s a) : a = 0 := by
  apply Classical.byContradiction
  intro hne
  have := eu_le (pol_EU K hF) h hne
  unfold wT at ha
  omega
/-- few powers of s: the coefficients are 0 -/
theorem low {R T U : Type} [Lean.Grind.CommRing R] [Lean.Grind.CommRing T] [Lean.Grind.CommRing U] {ct : T → Nat → R} (K : isPol ct) {cu : U → Nat → T} (Q : isPol cu) (hF : isF R) {s : T} {D : Nat} (hs : D + 1 < nu ct s) : ∀ (k : Nat) (u : U), wU ct cu D u → dv (s ^ (k + 1)) (eq Q u s) → (∀ i, i ≤ k → cu u i = 0) ∧ ∃ z, eq Q u s = s ^ (k + 1) * (cu u (k + 1) + s * z)
  | 0, u, hW, hd => by
    obtain ⟨v, hv, h1⟩ := shf Q u
    obtain ⟨v2, hv2, h2⟩ := shf Q v
    rw [pw1, h1] at hd
    have h3 : dv s (cu u 0) := by
      obtain ⟨c, hc⟩ := hd
      exact ⟨c - eq Q v s, by grind⟩
    have h4 := small0 K hF (hW 0) hs h3
    refine ⟨fun i hi => by rw [show i = 0 by omega]; exact h4, eq Q v2 s, ?_⟩
    rw [pw1, h1, h4, h2, hv]; grind
  | k + 1, u, hW, hd => by
    obtain ⟨v, hv, h1⟩ := shf Q u
    rw [h1] at hd
    have h3 : dv s (cu u 0) := by
      obtain ⟨c, hc⟩ := hd
      rw [pw_succ] at hc
      exact ⟨s ^ (k + 1) * c - eq Q v s, by grind⟩
    have h4 := small0 K hF (hW 0) hs h3
    have hs0 : s ≠ 0 := fun q => by rw [(nu_zero K).mpr q] at hs; omega
    have h5 : dv (s ^ (k + 1)) (eq Q v s) := by
      obtain ⟨c, hc⟩ := hd
      refine ⟨c, eu_cancel (pol_EU K hF) hs0 ?_⟩
      rw [h4, pw_succ] at hc
      grind
    obtain ⟨h6, z, h7⟩ := low K Q hF hs k v (fun i => by rw [hv]; exact hW (i + 1)) h5
    refine ⟨fun i hi => ?_, z, ?_⟩
    · match i with
      | 0 => exact h4
      | i + 1 => rw [← hv]; exact h6 i (by omega)
    · rw [h1, h4, h7, hv, pw_succ s (k + 1)]; grind
theorem low_dv {R S : Type} [Lean.Grind.CommRing R] [Lean.Grind.CommRing S] {co : S → Nat → R} (P : isPol co) {s : R} : ∀ (m : Nat) (u : S), (∀ i, i < m → co u i = 0) → dv (s ^ m) (eq P u s)
  | 0, u, _ => ⟨eq P u s, by rw [pw_zero]; grind⟩
  | m + 1, u, h => by
    obtain ⟨v, hv, h1⟩ := shf P u
    obtain ⟨c, hc⟩ := low_dv P (s := s) m v (fun i hi => by rw [hv]; exact h (i + 1) (by omega))
    exact ⟨c, by rw [h1, h 0 (by omega), hc, pw_succ]; grind⟩
/-- the root's powers, as far as k -/
theorem rec {R T U : Type} [Lean.Grind.CommRing R] [Lean.Grind.CommRing T] [Lean.Grind.CommRing U] {ct : T → Nat → R} (K : isPol ct) {cu : U → Nat → T} (Q : isPol cu) (hF : isF R) {s f g i2 : T} {H : U} {E : Nat} (hf : wT ct E f) (hH : wU ct cu E H) (hg : g * g * f = eq Q H s) (hg1 : dv s (g - 1)) (hi : i2 + i2 = 1) (hiw : wT ct 0 i2) : ∀ (k : Nat), E * (k * 2 ^ k) + 1 < nu ct s → ∃ A, wU ct cu (E * (k * 2 ^ k)) A ∧ dv (s ^ (k + 1)) (f ^ (2 ^ k - 1) * g - eq Q A s)
  | 0, _ => ⟨1, by rw [← mo_one Q]; exact wU_mo K Q (wT_1 K _) 0, by
      rw [eq_one, pw1, show 2 ^ 0 - 1 = 0 from rfl, pw_zero]
      obtain ⟨c, hc⟩ := hg1
      exact ⟨c, by grind⟩⟩
  | k + 1, hk => by
    have hp : 2 ^ (k + 1) = 2 ^ k * 2 := Nat.pow_succ 2 k
    have hp1 : 0 < 2 ^ k := Nat.pow_pos (by omega)
    have e1 : E * ((k + 1) * 2 ^ (k + 1)) = 2 * (E * (k * 2 ^ k)) + 2 * (E * 2 ^ k) := by rw [hp]; grind
    have e2 : E ≤ E * 2 ^ k := by calc E = E * 1 := (Nat.mul_one E).symm
                                     _ ≤ E * 2 ^ k := Nat.mul_le_mul_left E hp1
    obtain ⟨A, hA, w, hw⟩ := rec K Q hF hf hH hg hg1 hi hiw k (by omega)
    obtain ⟨n, hn⟩ : ∃ n, 2 ^ k - 1 = n := ⟨_, rfl⟩
    have hn2 : 2 ^ (k + 1) - 1 = n + 1 + n := by omega
    have hn3 : 2 ^ k = n + 1 := by omega
    rw [hn] at hw
    have hs0 : s ≠ 0 := fun q => by rw [(nu_zero K).mpr q] at hk; omega
    have hE := pol_EU K hF
    have hfn : wT ct (E * n) (f ^ n) := wT_p K hf n
    have eq1 : E * 2 ^ k = E * n + E := by rw [hn3]; grind
    have hL : wU ct cu (E * ((k + 1) * 2 ^ (k + 1))) (mo Q f 0 * (A * A) - mo Q (f ^ n * f ^ n) 0 * H) := by
      refine wU_s K Q (wU_l ?_ (wU_m K Q (wU_mo K Q hf 0) (wU_m K Q hA hA))) (wU_l ?_ (wU_m K Q (wU_mo K Q (wT_m K hfn hfn) 0) hH))
      · omega
      · omega
    have hLe : eq Q (mo Q f 0 * (A * A) - mo Q (f ^ n * f ^ n) 0 * H) s = s ^ (k + 1) * (f * (s ^ (k + 1) * (w * w) - f ^ n * g * w - f ^ n * g * w)) := by
      rw [eq_sub, eq_mul, eq_mul, eq_mul, eq_mo, eq_mo, pw_zero, ← hg]
      generalize f ^ n = F at *
      generalize s ^ (k + 1) = G at *
      generalize eq Q A s = a at *
      have : a = F * g - G * w := by grind
      rw [this]; grind
    obtain ⟨_, z, hz⟩ := low K Q hF (by omega) k _ hL ⟨_, hLe⟩
    have hlw : wT ct (E * ((k + 1) * 2 ^ (k + 1))) (cu (mo Q f 0 * (A * A) - mo Q (f ^ n * f ^ n) 0 * H) (k + 1)) := hL (k + 1)
    obtain ⟨l, hl⟩ : ∃ l, l = cu (mo Q f 0 * (A * A) - mo Q (f ^ n * f ^ n) 0 * H) (k + 1) := ⟨_, rfl⟩
    rw [← hl] at hz hlw
    rw [hLe] at hz
    have hpow : ∀ j : Nat, s ^ j ≠ 0 := by
      intro j
      induction j with
      | zero => rw [pw_zero]; intro q; apply hs0; have : s = s * 1 := by grind
                rw [this, q]; grind
      | succ j ih => rw [pw_succ]; intro q; rcases eu_dom hE q with q | q
                     · exact ih q
                     · exact hs0 q
    have hz2 := eu_cancel hE (hpow (k + 1)) hz
    obtain ⟨c, hc⟩ := hg1
    refine ⟨mo Q (f ^ (n + 1)) 0 * A - mo Q (i2 * l) (k + 1), wU_s K Q (wU_l ?_ (wU_m K Q (wU_mo K Q (wT_p K hf (n + 1)) 0) hA)) (wU_mo K Q (wT_l (by omega) (wT_m K hiw hlw)) (k + 1)), i2 * f * s ^ k * w * w - f * f ^ n * w * c - i2 * z, ?_⟩
    · have : E * (n + 1) = E * n + E := Nat.mul_succ E n
      omega
    · rw [hn2, eq_sub, eq_mul, eq_mo, eq_mo, pw_zero, pw_add f (n + 1) n, pw_succ f n, pw_succ s (k + 1)]
      rw [pw_succ s k] at *
      generalize f ^ n = F at *
      generalize s ^ k = G at *
      generalize eq Q A s = a at *
      grind
end MStep
