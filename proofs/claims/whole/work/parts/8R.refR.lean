/-! sets as whole numbers -/
section MRefR
theorem i3_bv {z : Nat} (h : z < 2147483648) : (Int32.ofInt (z : Int)).toBitVec = BitVec.ofNat 32 z := by
  apply BitVec.eq_of_toInt_eq
  have h1 : (Int32.ofInt (z : Int)).toInt = z := i3_t (by omega)
  have h2 : (BitVec.ofNat 32 z).toInt = z := by
    have e : (BitVec.ofNat 32 z).toNat = z := by rw [BitVec.toNat_ofNat, Nat.mod_eq_of_lt (by omega)]
    rw [BitVec.toInt_eq_toNat_of_lt (by omega), e]
  rw [h2]
  exact h1
theorem bv_i3 {x : BitVec 32} (h : x.toNat < 2147483648) : x.toInt = (x.toNat : Int) := BitVec.toInt_eq_toNat_of_lt (by omega)
theorem oandI_nat {a b : Nat} (ha : a < 2147483648) (hb : b < 2147483648) : oandI a b = ((a &&& b : Nat) : Int) := by
  have h1 : a &&& b ≤ a := Nat.and_le_left
  unfold oandI
  show ((Int32.ofInt (a : Int)).toBitVec &&& (Int32.ofInt (b : Int)).toBitVec).toInt = _
  rw [i3_bv ha, i3_bv hb]
  have e : (BitVec.ofNat 32 a &&& BitVec.ofNat 32 b).toNat = a &&& b := by
    rw [BitVec.toNat_and, BitVec.toNat_ofNat, BitVec.toNat_ofNat, Nat.mod_eq_of_lt (by omega), Nat.mod_eq_of_lt (by omega)]
  rw [bv_i3 (by omega), e]
theorem oorI_nat {a b : Nat} (ha : a < 2147483648) (hb : b < 2147483648) : oorI a b = ((a ||| b : Nat) : Int) := by
  have h1 : a ||| b < 2 ^ 31 := Nat.or_lt_two_pow (by omega) (by omega)
  unfold oorI
  show ((Int32.ofInt (a : Int)).toBitVec ||| (Int32.ofInt (b : Int)).toBitVec).toInt = _
  rw [i3_bv ha, i3_bv hb]
  have e : (BitVec.ofNat 32 a ||| BitVec.ofNat 32 b).toNat = a ||| b := by
    rw [BitVec.toNat_or, BitVec.toNat_ofNat, BitVec.toNat_ofNat, Nat.mod_eq_of_lt (by omega), Nat.mod_eq_of_lt (by omega)]
  rw [bv_i3 (by omega), e]
theorem oandn_nat {a b : Nat} (ha : a < 2147483648) (hb : b < 2147483648) : oandI a (oxorI b (-1)) = ((a &&& (a ^^^ b) : Nat) : Int) := by
  have h1 : a &&& (a ^^^ b) ≤ a := Nat.and_le_left
  unfold oandI oxorI
  rw [show (Int32.ofInt (Int32.ofInt (b : Int) ^^^ Int32.ofInt (-1)).toInt) = Int32.ofInt (b : Int) ^^^ Int32.ofInt (-1) from Int32.ofInt_toInt _]
  show ((Int32.ofInt (a : Int)).toBitVec &&& ((Int32.ofInt (b : Int)).toBitVec ^^^ (Int32.ofInt (-1)).toBitVec)).toInt = _
  rw [i3_bv ha, i3_bv hb]
  have e : (BitVec.ofNat 32 a &&& (BitVec.ofNat 32 b ^^^ (Int32.ofInt (-1)).toBitVec)) = BitVec.ofNat 32 (a &&& (a ^^^ b)) := by
    rw [show (Int32.ofInt (-1)).toBitVec = BitVec.allOnes 32 from by decide]
    apply BitVec.eq_of_getLsbD_eq
    intro i hi
    rw [BitVec.getLsbD_and, BitVec.getLsbD_xor, BitVec.getLsbD_ofNat, BitVec.getLsbD_ofNat, BitVec.getLsbD_ofNat, BitVec.getLsbD_allOnes, Nat.testBit_and, Nat.testBit_xor, decide_eq_true hi]
    cases a.testBit i <;> cases b.testBit i <;> rfl
  rw [e, bv_i3 (by rw [BitVec.toNat_ofNat, Nat.mod_eq_of_lt (by omega)]; omega), BitVec.toNat_ofNat, Nat.mod_eq_of_lt (by omega)]
theorem oshlI1 {m : Nat} (hm : m ≤ 20) : oshlI 1 m = ((2 ^ m : Nat) : Int) := by
  have : ∀ m : Fin 21, oshlI 1 (m.1 : Int) = ((2 ^ m.1 : Nat) : Int) := by decide +kernel
  exact this ⟨m, by omega⟩
theorem obit {a k : Nat} (ha : a < 1024) (hk : k < 10) : oandI (oshrI a k) 1 = if a.testBit k then 1 else 0 := by
  have : ∀ a : Fin 1024, ∀ k : Fin 10, oandI (oshrI (a.1 : Int) (k.1 : Int)) 1 = if a.1.testBit k.1 then 1 else 0 := by decide +kernel
  exact this ⟨a, ha⟩ ⟨k, hk⟩
theorem pc_bit {a m : Nat} (ha : a < 2 ^ m) : ∀ {j : Nat}, m ≤ j → pc (tb a) j = pc (tb a) m := by
  intro j hj
  obtain ⟨d, rfl⟩ : ∃ d, j = m + d := ⟨j - m, by omega⟩
  clear hj
  induction d with
  | zero => rfl
  | succ d ih =>
    rw [show m + (d + 1) = (m + d) + 1 by omega]
    simp only [pc]
    have h1 : tb a (m + d) = false := Nat.testBit_lt_two_pow (Nat.lt_of_lt_of_le ha (Nat.pow_le_pow_right (by omega) (by omega)))
    rw [h1, ih]
    rfl
theorem pc_low (y : Nat) (hy : y < 1024) (h0 : y ≠ 0) : pc (tb (y &&& (y - 1))) 10 + 1 = pc (tb y) 10 ∧ (y &&& (y - 1)) < y := by
  have : ∀ y : Fin 1024, y.1 ≠ 0 → pc (tb (y.1 &&& (y.1 - 1))) 10 + 1 = pc (tb y.1) 10 ∧ (y.1 &&& (y.1 - 1)) < y.1 := by decide +kernel
  exact this ⟨y, hy⟩ h0
theorem s_bits {y : Nat} (hy : y < 1024) {n : Nat} (hn : 18446744073709551616 ≤ n) : f_X8_bits n y = some ((pc (tb y) 10 : Nat) : Int) := by
  obtain ⟨r, hr, e⟩ := lp_do (step := l_X8_bits_4) (fun st => ∃ c z : Nat, st = ((c : Int), (z : Int)) ∧ z < 1024 ∧ c + pc (tb z) 10 = pc (tb y) 10) (fun st => st.2.toNat) (fun r => r = ((pc (tb y) 10 : Nat) : Int)) (fun st hst => by
    obtain ⟨c, z, e, hz, hc⟩ := hst
    subst e
    unfold l_X8_bits_4
    dsimp only
    rw [gI_s (by omega) (by omega), bs]
    by_cases h0 : (z : Int) = 0
    · rw [if_pos h0]
      refine Or.inl ⟨_, rfl, ?_⟩
      have e : z = 0 := by omega
      subst e
      rw [show pc (tb 0) 10 = 0 by decide] at hc
      omega
    · rw [if_neg h0, show (z : Int) - 1 = ((z - 1 : Nat) : Int) by omega, oandI_nat (by omega) (by omega)]
      obtain ⟨h1, h2⟩ := pc_low z hz (by omega)
      exact Or.inr ⟨_, rfl, ⟨c + 1, z &&& (z - 1), Prod.ext (by dsimp only; omega) rfl, by omega, by omega⟩, by dsimp only; omega⟩) n (0, y) ⟨0, y, rfl, hy, by omega⟩ (by dsimp only; omega)
  unfold f_X8_bits
  rw [hr, bs, e]
theorem tb_sub {a b m : Nat} (ha : a < 2 ^ m) : (a &&& (a ^^^ b) = 0) ↔ ∀ i, i < m → tb a i = true → tb b i = true := by
  constructor
  · intro h i hi h1
    have h2 : (a &&& (a ^^^ b)).testBit i = false := by rw [h, Nat.zero_testBit]
    rw [Nat.testBit_and, Nat.testBit_xor] at h2
    unfold tb at h1 ⊢
    rw [h1] at h2
    cases hb : b.testBit i
    · rw [hb] at h2; simp at h2
    · rfl
  · intro h
    apply Nat.eq_of_testBit_eq
    intro i
    rw [Nat.testBit_and, Nat.testBit_xor, Nat.zero_testBit]
    rcases Nat.lt_or_ge i m with q | q
    · cases h1 : a.testBit i
      · rfl
      · have := h i q h1
        unfold tb at this
        rw [this]; rfl
    · rw [Nat.testBit_lt_two_pow (Nat.lt_of_lt_of_le ha (Nat.pow_le_pow_right (by omega) q))]; rfl
theorem tb_diff (a b i : Nat) : tb (a &&& (a ^^^ b)) i = (tb a i && !tb b i) := by
  unfold tb
  rw [Nat.testBit_and, Nat.testBit_xor]
  cases a.testBit i <;> cases b.testBit i <;> rfl
end MRefR
