/-! no number up to 9999 has more than 64 divisors -/
section MCn
def cn (w : Nat) : Nat → Nat
  | 0 => 0
  | d + 1 => cond (Nat.beq (w % d) 0) (Nat.add (cn w d) 1) (cn w d)
theorem cn_s (w d : Nat) : cn w (d + 1) = if w % d = 0 then cn w d + 1 else cn w d := by
  show cond (Nat.beq (w % d) 0) (Nat.add (cn w d) 1) (cn w d) = _
  by_cases h : w % d = 0
  · rw [if_pos h, h]; rfl
  · have hb : Nat.beq (w % d) 0 = false := by
      rcases hq : w % d with _ | x
      · exact absurd hq h
      · rfl
    rw [if_neg h, hb]; rfl
theorem cn_le {w : Nat} (hw : 0 < w) : ∀ d, cn w (d + 1) ≤ d
  | 0 => by rw [cn_s, Nat.mod_zero, if_neg (by omega)]; exact Nat.le_refl _
  | d + 1 => by
    have := cn_le hw d
    rw [cn_s]
    split <;> omega
theorem cn_mono (w : Nat) {d e : Nat} (h : d ≤ e) : cn w d ≤ cn w e := by
  induction h with
  | refl => exact Nat.le_refl _
  | step _ ih => rw [cn_s]; split <;> omega
def cnB (s : Nat) : Nat → Bool
  | 0 => true
  | j + 1 => Nat.ble (cn (Nat.add (Nat.mul s s) j) (Nat.succ s)) 32 && cnB s j
theorem cnB_s {s : Nat} : ∀ {k : Nat}, cnB s k = true → ∀ j, j < k → cn (s * s + j) (s + 1) ≤ 32
  | 0, _, j, hj => absurd hj (by omega)
  | k + 1, h, j, hj => by
    have h' : (Nat.ble (cn (s * s + k) (s + 1)) 32 && cnB s k) = true := h
    rw [Bool.and_eq_true] at h'
    rcases Nat.lt_or_ge j k with z | z
    · exact cnB_s h'.2 j z
    · rw [show j = k by omega]; exact Nat.le_of_ble_eq_true h'.1
def cnC (a : Nat) : Nat → Bool
  | 0 => true
  | j + 1 => cnB (Nat.add a j) (Nat.add (Nat.mul 2 (Nat.add a j)) 1) && cnC a j
theorem cnC_s {a : Nat} : ∀ {k : Nat}, cnC a k = true → ∀ s, a ≤ s → s < a + k → cnB s (2 * s + 1) = true
  | 0, _, s, h1, h2 => absurd h2 (by omega)
  | k + 1, h, s, h1, h2 => by
    have h' : (cnB (a + k) (2 * (a + k) + 1) && cnC a k) = true := h
    rw [Bool.and_eq_true] at h'
    rcases Nat.lt_or_ge s (a + k) with z | z
    · exact cnC_s h'.2 s h1 z
    · rw [show s = a + k by omega]; exact h'.1
theorem cnC_all : cnC 33 67 = true := by decide +kernel
theorem sq_root (w : Nat) : ∃ s, s * s ≤ w ∧ w < (s + 1) * (s + 1) := by
  induction w with
  | zero => exact ⟨0, by omega, by omega⟩
  | succ w ih =>
    obtain ⟨s, h1, h2⟩ := ih
    rcases Nat.lt_or_ge (w + 1) ((s + 1) * (s + 1)) with z | z
    · exact ⟨s, by omega, z⟩
    · refine ⟨s + 1, z, ?_⟩
      have : (s + 1 + 1) * (s + 1 + 1) = (s + 1) * (s + 1) + 2 * s + 3 := by grind
      omega
theorem cn_32 {w : Nat} (h0 : 0 < w) (h1 : w ≤ 9999) {d : Nat} (hd : d * d ≤ w) : cn w (d + 1) ≤ 32 := by
  obtain ⟨s, s1, s2⟩ := sq_root w
  have hs99 : s ≤ 99 := by
    rcases Nat.lt_or_ge s 100 with z | z
    · omega
    · exfalso
      have : 100 * 100 ≤ s * s := Nat.mul_le_mul z z
      omega
  have hds : d ≤ s := by
    rcases Nat.lt_or_ge d (s + 1) with z | z
    · omega
    · exfalso
      have : (s + 1) * (s + 1) ≤ d * d := Nat.mul_le_mul z z
      omega
  refine Nat.le_trans (cn_mono w (show d + 1 ≤ s + 1 by omega)) ?_
  rcases Nat.lt_or_ge s 33 with z | z
  · have := cn_le h0 s; omega
  · have e : (s + 1) * (s + 1) = s * s + 2 * s + 1 := by grind
    have := cnB_s (cnC_s cnC_all s z (by omega)) (w - s * s) (by omega)
    rw [show s * s + (w - s * s) = w by omega] at this
    exact this
theorem cn_no {w : Nat} (h0 : 0 < w) (h1 : w ≤ 9999) {d e : Nat} (hc : 32 ≤ cn w d) (hde : d ≤ e) (he : e * e ≤ w) : ¬ e ∣ w := fun h => by
  have h2 := cn_32 h0 h1 he
  rw [cn_s, if_pos (Nat.mod_eq_zero_of_dvd h)] at h2
  have := cn_mono w hde
  omega
end MCn
