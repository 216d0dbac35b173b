/-! more unknowns than equations; boxes -/
section MLin
theorem sm_skip {R : Type} [Lean.Grind.CommRing R] (f : Nat → R) {j0 : Nat} : ∀ {m : Nat}, j0 ≤ m → sm f (m + 1) = f j0 + sm (fun j => f (if j < j0 then j else j + 1)) m
  | 0, h => by
    rw [show j0 = 0 by omega]; simp only [sm]; grind
  | m + 1, h => by
    rw [sm_succ]
    rcases Nat.lt_or_ge m j0 with q | q
    · have hj : j0 = m + 1 := by omega
      rw [hj, sm_congr (f := fun j => f (if j < m + 1 then j else j + 1)) (g := f) (fun i hi => by rw [if_pos hi])]
      grind
    · rw [sm_skip f q, sm_succ (fun j => f (if j < j0 then j else j + 1)), if_neg (by omega)]
      grind
/-- W: a measure of size that products add -/
theorem lin {S : Type} [Lean.Grind.CommRing S] (hD : isD S) (h10 : (1 : S) ≠ 0) {W : Nat → S → Prop} (w0 : W 0 0) (w1 : W 0 1) (wm : ∀ m n a b, W m a → W n b → W (m + n) (a * b)) (ws : ∀ m a b, W m a → W m b → W m (a - b)) (wl : ∀ m n a, m ≤ n → W m a → W n a) :
    ∀ (k n D : Nat) (A : Nat → Nat → S), k < n → (∀ e j, e < k → j < n → W D (A e j)) → ∃ x : Nat → S, (∃ j, j < n ∧ x j ≠ 0) ∧ (∀ j, j < n → W (D * (2 ^ k - 1)) (x j)) ∧ ∀ e, e < k → sm (fun j => A e j * x j) n = 0
  | 0, n, D, A, hk, _ => ⟨fun j => if j = 0 then 1 else 0, ⟨0, hk, h10⟩, fun j _ => by
      dsimp only
      by_cases h : j = 0
      · rw [if_pos h]; exact wl _ _ _ (Nat.zero_le _) w1
      · rw [if_neg h]; exact wl _ _ _ (Nat.zero_le _) w0, fun e he => absurd he (by omega)⟩
  | k + 1, n, D, A, hk, hA => by
    have hp : 2 ^ (k + 1) = 2 ^ k * 2 := Nat.pow_succ 2 k
    have hp1 : 0 < 2 ^ k := Nat.pow_pos (by omega)
    by_cases hz : ∀ j, j < n → A k j = 0
    · obtain ⟨x, h1, h2, h3⟩ := lin hD h10 w0 w1 wm ws wl k n D A (by omega) (fun e j he hj => hA e j (by omega) hj)
      refine ⟨x, h1, fun j hj => wl _ _ _ (Nat.mul_le_mul_left D (by omega)) (h2 j hj), fun e he => ?_⟩
      rcases Nat.lt_or_ge e k with q | q
      · exact h3 e q
      · rw [show e = k by omega]
        exact sm_zero (fun j hj => by rw [hz j hj]; grind)
    · have : ∃ j0, j0 < n ∧ A k j0 ≠ 0 := by
        apply Classical.byContradiction
        intro q
        exact hz (fun j hj => Classical.byContradiction (fun q2 => q ⟨j, hj, q2⟩))
      obtain ⟨j0, hj0, hne⟩ := this
      obtain ⟨m, rfl⟩ : ∃ m, n = m + 1 := ⟨n - 1, by omega⟩
      have hsk : ∀ j, j < m → (if j < j0 then j else j + 1) < m + 1 := by intro j hj; split <;> omega
      obtain ⟨y, ⟨j1, hj1, hy1⟩, h2, h3⟩ := lin hD h10 w0 w1 wm ws wl k m (D + D) (fun e j => A k j0 * A e (if j < j0 then j else j + 1) - A e j0 * A k (if j < j0 then j else j + 1)) (by omega) (fun e j he hj => ws _ _ _ (wm _ _ _ _ (hA k j0 (by omega) hj0) (hA e _ (by omega) (hsk j hj))) (wm _ _ _ _ (hA e j0 (by omega) hj0) (hA k _ (by omega) (hsk j hj))))
      have hsub : ∀ j, (if (if j < j0 then j else j + 1) = j0 then 0 - sm (fun j => A k (if j < j0 then j else j + 1) * y j) m else A k j0 * y (if (if j < j0 then j else j + 1) < j0 then (if j < j0 then j else j + 1) else (if j < j0 then j else j + 1) - 1)) = A k j0 * y j := by
        intro j
        by_cases q : j < j0
        · simp only [if_pos q]; rw [if_neg (by omega)]
        · simp only [if_neg q]; rw [if_neg (by omega), if_neg (by omega), Nat.add_sub_cancel]
      refine ⟨fun i => if i = j0 then 0 - sm (fun j => A k (if j < j0 then j else j + 1) * y j) m else A k j0 * y (if i < j0 then i else i - 1), ⟨if j1 < j0 then j1 else j1 + 1, hsk j1 hj1, ?_⟩, fun j hj => ?_, fun e he => ?_⟩
      · dsimp only
        rw [hsub j1]
        intro q
        rcases hD _ _ q with q | q
        · exact hne q
        · exact hy1 q
      · have hb : D + (D + D) * (2 ^ k - 1) = D * (2 ^ (k + 1) - 1) := by
          obtain ⟨t, ht⟩ : ∃ t, 2 ^ k = t + 1 := ⟨2 ^ k - 1, by omega⟩
          rw [hp, ht, show (t + 1) * 2 - 1 = 2 * t + 1 by omega, Nat.add_sub_cancel]; grind
        rw [← hb]
        dsimp only
        by_cases q : j = j0
        · rw [if_pos q]
          refine ws _ _ _ (wl _ _ _ (Nat.zero_le _) w0) ?_
          have : ∀ t, t ≤ m → W (D + (D + D) * (2 ^ k - 1)) (sm (fun j => A k (if j < j0 then j else j + 1) * y j) t) := by
            intro t
            induction t with
            | zero => intro _; exact wl _ _ _ (Nat.zero_le _) w0
            | succ t ih =>
              intro ht
              rw [sm_succ]
              have e1 : sm (fun j => A k (if j < j0 then j else j + 1) * y j) t + A k (if t < j0 then t else t + 1) * y t = sm (fun j => A k (if j < j0 then j else j + 1) * y j) t - (0 - A k (if t < j0 then t else t + 1) * y t) := by grind
              rw [e1]
              exact ws _ _ _ (ih (by omega)) (ws _ _ _ (wl _ _ _ (Nat.zero_le _) w0) (wm _ _ _ _ (hA k _ (by omega) (hsk t (by omega))) (h2 t (by omega))))
          exact this m (Nat.le_refl _)
        · rw [if_neg q]
          exact wm _ _ _ _ (hA k j0 (by omega) hj0) (h2 _ (by split <;> omega))
      · rw [sm_skip (j0 := j0) _ (show j0 ≤ m by omega)]
        simp only [hsub]
        rw [if_pos trivial]
        have h5 : ∀ a b : S, ∀ f : Nat → S, a * (0 - sm f m) + sm (fun j => A e (if j < j0 then j else j + 1) * (b * y j)) m = sm (fun j => b * A e (if j < j0 then j else j + 1) * y j) m - a * sm f m := by
          intro a b f
          rw [sm_congr (f := fun j => A e (if j < j0 then j else j + 1) * (b * y j)) (g := fun j => b * A e (if j < j0 then j else j + 1) * y j) (fun j _ => by grind)]
          grind
        rw [h5, ← sm_mul, ← sm_sub]
        rcases Nat.lt_or_ge e k with q | q
        · rw [← h3 e q]
          exact sm_congr (fun j _ => by grind)
        · rw [show e = k by omega]
          exact sm_zero (fun j _ => by grind)
theorem php : ∀ (U T : Nat) (f : Nat → Nat), U < T → (∀ s, s < T → f s < U) → ∃ i j, i < j ∧ j < T ∧ f i = f j
  | 0, T, f, h, h1 => by have := h1 0 (by omega); omega
  | U + 1, T, f, h, h1 => by
    by_cases hex : ∃ s0, s0 < T ∧ f s0 = U
    · obtain ⟨s0, hs0, hf⟩ := hex
      by_cases hex2 : ∃ s1, s1 < T ∧ s1 ≠ s0 ∧ f s1 = U
      · obtain ⟨s1, hs1, hne, hf1⟩ := hex2
        rcases Nat.lt_or_ge s0 s1 with q | q
        · exact ⟨s0, s1, q, hs1, by rw [hf, hf1]⟩
        · exact ⟨s1, s0, by omega, hs0, by rw [hf, hf1]⟩
      · obtain ⟨i, j, hij, hj, hfe⟩ := php U (T - 1) (fun s => f (if s < s0 then s else s + 1)) (by omega) (fun s hs => by
          have hlt : (if s < s0 then s else s + 1) < T := by split <;> omega
          have h2 := h1 _ hlt
          have h3 : f (if s < s0 then s else s + 1) ≠ U := fun q => hex2 ⟨_, hlt, by split <;> omega, q⟩
          omega)
        exact ⟨_, _, by split <;> split <;> omega, by split <;> omega, hfe⟩
    · obtain ⟨i, j, hij, hj, hfe⟩ := php U T f (by omega) (fun s hs => by
        have h2 := h1 s hs
        have h3 : f s ≠ U := fun q => hex ⟨s, hs, q⟩
        omega)
      exact ⟨i, j, hij, hj, hfe⟩
def enc (Q : Nat) (v : Nat → Nat) : Nat → Nat
  | 0 => 0
  | m + 1 => v 0 + Q * enc Q (fun i => v (i + 1)) m
theorem enc_lt {Q : Nat} (hQ : 0 < Q) : ∀ (m : Nat) (v : Nat → Nat), (∀ i, i < m → v i < Q) → enc Q v m < Q ^ m
  | 0, v, _ => by simp [enc]
  | m + 1, v, h => by
    have h1 := enc_lt hQ m (fun i => v (i + 1)) (fun i hi => h (i + 1) (by omega))
    have h2 := h 0 (by omega)
    have h3 : Q * (enc Q (fun i => v (i + 1)) m + 1) ≤ Q * Q ^ m := Nat.mul_le_mul_left Q h1
    rw [Nat.mul_add] at h3
    simp only [enc]
    rw [Nat.pow_succ, Nat.mul_comm (Q ^ m)]
    omega
theorem enc_u {Q : Nat} (hQ : 0 < Q) : ∀ (m : Nat) (v w : Nat → Nat), (∀ i, i < m → v i < Q) → (∀ i, i < m → w i < Q) → enc Q v m = enc Q w m → ∀ i, i < m → v i = w i
  | 0, _, _, _, _, _, i, hi => absurd hi (by omega)
  | m + 1, v, w, h, h1, h2, i, hi => by
    simp only [enc] at h2
    have a1 := h 0 (by omega)
    have a2 := h1 0 (by omega)
    have m1 : (v 0 + Q * enc Q (fun i => v (i + 1)) m) % Q = v 0 := by rw [Nat.add_mul_mod_self_left, Nat.mod_eq_of_lt a1]
    have m2 : (w 0 + Q * enc Q (fun i => w (i + 1)) m) % Q = w 0 := by rw [Nat.add_mul_mod_self_left, Nat.mod_eq_of_lt a2]
    have e0 : v 0 = w 0 := by rw [← m1, ← m2, h2]
    have e1 : enc Q (fun i => v (i + 1)) m = enc Q (fun i => w (i + 1)) m := by
      have : Q * enc Q (fun i => v (i + 1)) m = Q * enc Q (fun i => w (i + 1)) m := by omega
      exact Nat.eq_of_mul_eq_mul_left hQ this
    match i with
    | 0 => exact e0
    | i + 1 => exact enc_u hQ m _ _ (fun i hi => h (i + 1) (by omega)) (fun i hi => h1 (i + 1) (by omega)) e1 i (by omega)
/-- a small whole solution -/
theorem siegel {m n : Nat} {A : Nat → Nat → Int} {B : Nat} (hB : 1 ≤ B) (hmn : m < n) (hA : ∀ e, e < m → sm (fun j => ((A e j).natAbs : Int)) n ≤ B) : ∃ x : Nat → Int, (∃ j, j < n ∧ x j ≠ 0) ∧ (∀ j, j < n → (x j).natAbs ≤ B ^ m) ∧ ∀ e, e < m → sm (fun j => A e j * x j) n = 0 := by
  have hX1 : 2 ≤ B ^ m + 1 := by have := Nat.pow_pos (n := m) (show 0 < B by omega); omega
  have hdig : ∀ s j : Nat, s / (B ^ m + 1) ^ j % (B ^ m + 1) ≤ B ^ m := fun s j => by
    have := Nat.mod_lt (s / (B ^ m + 1) ^ j) (show 0 < B ^ m + 1 by omega); omega
  -- a form, moved to begin at 0
  have hterm : ∀ (a : Int) (d : Nat), d ≤ B ^ m → 0 ≤ a * (d : Int) + ((-a).toNat : Int) * (B ^ m : Nat) ∧ a * (d : Int) + ((-a).toNat : Int) * (B ^ m : Nat) ≤ (a.natAbs : Int) * (B ^ m : Nat) := by
    intro a d hd
    generalize B ^ m = X at *
    have hd' : (d : Int) ≤ X := by omega
    rcases Int.le_total 0 a with q | q
    · have e1 : ((-a).toNat : Int) = 0 := by omega
      have e2 : (a.natAbs : Int) = a := by omega
      rw [e1, e2]
      have h1 := Int.mul_nonneg q (show (0 : Int) ≤ d by omega)
      have h2 := Int.mul_le_mul_of_nonneg_left hd' q
      constructor <;> omega
    · have e1 : ((-a).toNat : Int) = -a := by omega
      have e2 : (a.natAbs : Int) = -a := by omega
      rw [e1, e2]
      have h1 := Int.mul_nonneg (show 0 ≤ -a by omega) (show (0 : Int) ≤ d by omega)
      have h2 := Int.mul_le_mul_of_nonneg_left hd' (show 0 ≤ -a by omega)
      have h3 : -a * (d : Int) = -(a * d) := Int.neg_mul a d
      constructor <;> omega
  have hval : ∀ (s e : Nat), e < m → 0 ≤ sm (fun j => A e j * ((s / (B ^ m + 1) ^ j % (B ^ m + 1) : Nat) : Int) + ((-A e j).toNat : Int) * (B ^ m : Nat)) n ∧ sm (fun j => A e j * ((s / (B ^ m + 1) ^ j % (B ^ m + 1) : Nat) : Int) + ((-A e j).toNat : Int) * (B ^ m : Nat)) n ≤ (B * B ^ m : Nat) := by
    intro s e he
    refine ⟨sm_nn (fun j _ => (hterm _ _ (hdig s j)).1), ?_⟩
    have h1 := sm_le (f := fun j => A e j * ((s / (B ^ m + 1) ^ j % (B ^ m + 1) : Nat) : Int) + ((-A e j).toNat : Int) * (B ^ m : Nat)) (g := fun j => ((A e j).natAbs : Int) * (B ^ m : Nat)) (n := n) (fun j _ => (hterm _ _ (hdig s j)).2)
    rw [sm_mulr] at h1
    have h2 := Int.mul_le_mul_of_nonneg_right (hA e he) (show (0 : Int) ≤ (B ^ m : Nat) by omega)
    have h3 : ((B * B ^ m : Nat) : Int) = (B : Int) * (B ^ m : Nat) := Int.natCast_mul _ _
    omega
  obtain ⟨s, t, hst, ht, hse⟩ := php ((B * B ^ m + 1) ^ m) ((B ^ m + 1) ^ n) (fun s => enc (B * B ^ m + 1) (fun e => (sm (fun j => A e j * ((s / (B ^ m + 1) ^ j % (B ^ m + 1) : Nat) : Int) + ((-A e j).toNat : Int) * (B ^ m : Nat)) n).toNat) m) (by
      have h1 : (B * B ^ m + 1) ^ m ≤ (B * (B ^ m + 1)) ^ m := Nat.pow_le_pow_left (by rw [Nat.mul_add]; omega) m
      have h2 : (B * (B ^ m + 1)) ^ m = B ^ m * (B ^ m + 1) ^ m := Nat.mul_pow _ _ _
      have h3 : B ^ m * (B ^ m + 1) ^ m < (B ^ m + 1) * (B ^ m + 1) ^ m := Nat.mul_lt_mul_of_pos_right (by omega) (Nat.pow_pos (by omega))
      have h4 : (B ^ m + 1) * (B ^ m + 1) ^ m = (B ^ m + 1) ^ (m + 1) := by rw [Nat.pow_succ, Nat.mul_comm]
      have h5 : (B ^ m + 1) ^ (m + 1) ≤ (B ^ m + 1) ^ n := Nat.pow_le_pow_right (by omega) hmn
      omega) (fun s hs => enc_lt (by omega) m _ (fun e he => by have := hval s e he; omega))
  have hu := enc_u (show 0 < B * B ^ m + 1 by omega) m _ _ (fun e he => by have := hval s e he; omega) (fun e he => by have := hval t e he; omega) hse
  refine ⟨fun j => ((s / (B ^ m + 1) ^ j % (B ^ m + 1) : Nat) : Int) - ((t / (B ^ m + 1) ^ j % (B ^ m + 1) : Nat) : Int), ?_, fun j _ => ?_, fun e he => ?_⟩
  · apply Classical.byContradiction
    intro hn
    have : s = t := dig_u hX1 n s t (by omega) ht (fun j hj => by
      apply Classical.byContradiction
      intro hne
      exact hn ⟨j, hj, by dsimp only; omega⟩)
    omega
  · have := hdig s j
    have := hdig t j
    dsimp only
    omega
  · have h1 := hu e he
    have h2 := hval s e he
    have h3 := hval t e he
    have h4 : sm (fun j => A e j * ((s / (B ^ m + 1) ^ j % (B ^ m + 1) : Nat) : Int) + ((-A e j).toNat : Int) * (B ^ m : Nat)) n = sm (fun j => A e j * ((t / (B ^ m + 1) ^ j % (B ^ m + 1) : Nat) : Int) + ((-A e j).toNat : Int) * (B ^ m : Nat)) n := by omega
    have h5 : sm (fun j => A e j * (((s / (B ^ m + 1) ^ j % (B ^ m + 1) : Nat) : Int) - ((t / (B ^ m + 1) ^ j % (B ^ m + 1) : Nat) : Int))) n = sm (fun j => A e j * ((s / (B ^ m + 1) ^ j % (B ^ m + 1) : Nat) : Int) + ((-A e j).toNat : Int) * (B ^ m : Nat)) n - sm (fun j => A e j * ((t / (B ^ m + 1) ^ j % (B ^ m + 1) : Nat) : Int) + ((-A e j).toNat : Int) * (B ^ m : Nat)) n := by
      rw [← sm_sub]
      exact sm_congr (fun j _ => by grind)
    rw [h5, h4]; omega
end MLin
