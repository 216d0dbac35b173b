/-! shifts and masks; products by the modulus -/
section MRef3
theorem bmod_small {z : Int} (h0 : 0 ≤ z) (h1 : z < 9223372036854775808) : Int.bmod z (2 ^ 64) = z := by
  rw [Int.bmod_def, Int.emod_eq_of_lt h0 (by omega), if_pos (by omega)]
theorem i6_nat {z : Int} (h0 : 0 ≤ z) (h1 : z < 9223372036854775808) : (Int64.ofInt z).toBitVec.toNat = z.toNat := by
  show (BitVec.ofInt 64 z).toNat = z.toNat
  rw [BitVec.toNat_ofInt]
  congr 1
  exact Int.emod_eq_of_lt h0 (by omega)
theorem oshr20 {z : Int} (h : inJ z) : oshrJ z 20 = z / 1048576 := by
  unfold oshrJ
  have e : ((Int32.ofInt 20).toInt64 &&& 63) = (20 : Int64) := by decide
  rw [e]
  show (BitVec.sshiftRight' (Int64.ofInt z).toBitVec ((20 : Int64).toBitVec.smod 64)).toInt = _
  rw [BitVec.toInt_sshiftRight']
  have e2 : ((20 : Int64).toBitVec.smod 64).toNat = 20 := by decide
  have e3 : (Int64.ofInt z).toBitVec.toInt = z := i6_t h
  rw [e2, e3, Int.shiftRight_eq_div_pow]; rfl
theorem oshr1 {z : Int} (h : inJ z) : oshrJ z 1 = z / 2 := by
  unfold oshrJ
  have e : ((Int32.ofInt 1).toInt64 &&& 63) = (1 : Int64) := by decide
  rw [e]
  show (BitVec.sshiftRight' (Int64.ofInt z).toBitVec ((1 : Int64).toBitVec.smod 64)).toInt = _
  rw [BitVec.toInt_sshiftRight']
  have e2 : ((1 : Int64).toBitVec.smod 64).toNat = 1 := by decide
  have e3 : (Int64.ofInt z).toBitVec.toInt = z := i6_t h
  rw [e2, e3, Int.shiftRight_eq_div_pow]; rfl
theorem oand_mask {z : Int} (h0 : 0 ≤ z) (h1 : z < 9223372036854775808) (k : Nat) (hk : k < 62) : oandJ z ((2 ^ k - 1 : Nat) : Int) = z % (2 ^ k : Nat) := by
  have hp : 0 < 2 ^ k := Nat.pow_pos (by omega)
  have hp2 : 2 ^ k ≤ 2 ^ 62 := Nat.pow_le_pow_right (by omega) (by omega)
  have e62 : (2 : Nat) ^ 62 = 4611686018427387904 := by decide
  unfold oandJ
  show ((Int64.ofInt z).toBitVec &&& (Int64.ofInt ((2 ^ k - 1 : Nat) : Int)).toBitVec).toInt = _
  rw [BitVec.toInt_and, i6_nat h0 h1, i6_nat (by omega) (by omega), Int.toNat_natCast, Nat.and_two_pow_sub_one_eq_mod]
  have hlt := Nat.mod_lt z.toNat hp
  rw [bmod_small (by omega) (by omega), Int.natCast_emod]
  congr 1
  omega
theorem oshl20 {z : Int} (h0 : 0 ≤ z) (h1 : z < 1099511627776) : oshlJ z 20 = z * 1048576 := by
  unfold oshlJ
  have e : ((Int32.ofInt 20).toInt64 &&& 63) = (20 : Int64) := by decide
  rw [e]
  show ((Int64.ofInt z).toBitVec <<< ((20 : Int64).toBitVec.smod 64)).toInt = _
  rw [BitVec.shiftLeft_eq', BitVec.toInt_shiftLeft]
  have e2 : ((20 : Int64).toBitVec.smod 64).toNat = 20 := by decide
  rw [e2, i6_nat h0 (by omega), Nat.shiftLeft_eq]
  rw [bmod_small (by omega) (by omega)]
  omega
theorem tmod_nn {x y : Int} (hx : 0 ≤ x) : x.tmod y = x % y := Int.tmod_eq_emod_of_nonneg hx
/-- the modulus -/
abbrev md (M : MI) : Int := M.1 36 9
theorem s_product {M : MI} {m a b : Int} (hm : M.1 36 9 = m) (hm1 : 2 ≤ m) (hm2 : m ≤ 1000000000000) (ha : 0 ≤ a) (ha2 : a < m) (hb : 0 ≤ b) (hb2 : b < m) : f_X8_product a b M = some (a * b % m) := by
  unfold f_X8_product
  rw [hm, oshr20 (by omega)]
  have hq : 0 ≤ b / 1048576 := Int.ediv_nonneg hb (by omega)
  have hq2 : b / 1048576 ≤ 953675 := by omega
  have h1 : 0 ≤ a * (b / 1048576) := Int.mul_nonneg ha hq
  have h2 : a * (b / 1048576) ≤ 1000000000000 * 953675 := Int.mul_le_mul (by omega) hq2 hq (by omega)
  have e1 : orJ (a * (b / 1048576)) m = some (a * (b / 1048576) % m) := by
    unfold orJ
    rw [if_pos ⟨by omega, by omega, by omega, by omega⟩, tmod_nn h1]
  rw [e1, bs]
  have h3 := Int.emod_nonneg (a * (b / 1048576)) (show m ≠ 0 by omega)
  have h4 := Int.emod_lt_of_pos (a * (b / 1048576)) (show 0 < m by omega)
  have em : oandJ b 1048575 = b % 1048576 := oand_mask hb (by omega) 20 (by omega)
  rw [oshl20 h3 (by omega), em]
  have h5 := Int.emod_nonneg b (show (1048576 : Int) ≠ 0 by omega)
  have h6 := Int.emod_lt_of_pos b (show (0 : Int) < 1048576 by omega)
  have h7 : 0 ≤ a * (b % 1048576) := Int.mul_nonneg ha h5
  have h8 : a * (b % 1048576) ≤ 1000000000000 * 1048576 := Int.mul_le_mul (by omega) (by omega) h5 (by omega)
  have e2 : orJ (a * (b / 1048576) % m * 1048576 + a * (b % 1048576)) m = some ((a * (b / 1048576) % m * 1048576 + a * (b % 1048576)) % m) := by
    unfold orJ
    rw [if_pos ⟨by omega, by omega, by omega, by omega⟩, tmod_nn (by omega)]
  rw [e2, bs]
  congr 1
  have hb3 := Int.mul_ediv_add_emod b 1048576
  have hx := Int.mul_ediv_add_emod (a * (b / 1048576)) m
  generalize a * (b / 1048576) % m = X at *
  generalize a * (b / 1048576) / m = Y at *
  have e3 : a * b = (X * 1048576 + a * (b % 1048576)) + m * (Y * 1048576) := by
    have : a * b = a * (1048576 * (b / 1048576) + b % 1048576) := by rw [hb3]
    rw [this]; grind
  rw [e3, Int.add_mul_emod_self_left]
end MRef3
