/-! exact numbers in longs -/
theorem ze_toInt {z : Int} (h1 : -9223372036854775808 ≤ z) (h2 : z < 9223372036854775808) : (Int64.ofInt z).toInt = z := by
  rw [Int64.toInt_ofInt]
  show z.bmod (2 ^ 64) = z
  rw [Int.bmod_eq_of_le] <;> omega
theorem ze_inj {y z : Int} (h1 : -9223372036854775808 ≤ y) (h2 : y < 9223372036854775808) (h3 : -9223372036854775808 ≤ z) (h4 : z < 9223372036854775808) : Int64.ofInt y = Int64.ofInt z ↔ y = z := by
  constructor
  · intro h
    have := congrArg Int64.toInt h
    rwa [ze_toInt h1 h2, ze_toInt h3 h4] at this
  · intro h; rw [h]
theorem ze_half {k : Int} (h1 : -4611686018427387904 ≤ k) (h2 : k < 4611686018427387904) : Int64.ofInt (2 * k) / 2 = Int64.ofInt k := by
  apply Int64.toInt_inj.mp
  rw [Int64.toInt_div, ze_toInt (by omega) (by omega), ze_toInt (by omega) (by omega)]
  have e2 : (2 : Int64).toInt = 2 := by decide
  rw [e2, Int.mul_tdiv_cancel_left _ (by decide)]
  show k.bmod (2 ^ 64) = k
  rw [Int.bmod_eq_of_le] <;> omega
theorem ze_div2 {z : Int} (h1 : -9223372036854775808 ≤ z) (h2 : z < 9223372036854775808) (h : z % 2 = 0) : Int64.ofInt z / 2 = Int64.ofInt (z / 2) := by
  have e : z = 2 * (z / 2) := by omega
  conv => lhs; rw [e]
  exact ze_half (by omega) (by omega)
theorem ze_even (k : Int) : Int64.ofInt (2 * k) = 2 * Int64.ofInt k := by
  rw [Int64.ofInt_mul]
  rfl
theorem ze_bmod2 (z : Int) : (z.bmod (2 ^ 64)) % 2 = z % 2 := by
  have : z.bmod (2 ^ 64) % ((2 ^ 64 : Nat) : Int) = z % ((2 ^ 64 : Nat) : Int) := Int.bmod_emod
  have e : ((2 ^ 64 : Nat) : Int) = 18446744073709551616 := by decide
  rw [e] at this
  omega
theorem ze_and1 (x : Int64) : (x &&& 1 = 0) ↔ x.toInt % 2 = 0 := by
  have h1 : (x &&& 1 = 0) ↔ (x.toBitVec &&& 1#64) = 0#64 := by
    constructor
    · intro h
      have := congrArg Int64.toBitVec h
      simpa using this
    · intro h
      apply Int64.toBitVec_inj.mp
      simpa using h
  have h2 : (x.toBitVec &&& 1#64).toNat = x.toBitVec.toNat % 2 := by
    rw [BitVec.toNat_and]
    exact Nat.and_one_is_mod _
  have h3 : x.toInt = x.toBitVec.toInt := rfl
  rw [h1, h3, BitVec.toInt_eq_toNat_cond]
  constructor
  · intro h
    rw [h] at h2
    have h4 : (0#64).toNat = 0 := rfl
    split <;> omega
  · intro h
    apply BitVec.eq_of_toNat_eq
    rw [h2]
    show x.toBitVec.toNat % 2 = 0
    split at h <;> omega
theorem ze_ofInt_mod (z : Int) : (Int64.ofInt z).toInt % 2 = z % 2 := by
  rw [Int64.toInt_ofInt]
  exact ze_bmod2 z
theorem ze_ofInt_toInt (x : Int64) : Int64.ofInt x.toInt = x := by simp
theorem ze_rem2 (x : Int64) : (x - x / 2 * 2 = 0) ↔ x.toInt % 2 = 0 := by
  have b1 := x.le_toInt
  have b2 := x.toInt_lt
  constructor
  · intro h
    have h1 : x = x / 2 * 2 := by
      have : x = x - x / 2 * 2 + x / 2 * 2 := by grind
      rw [h] at this
      simpa using this
    rw [h1, Int64.toInt_mul]
    have e2 : (2 : Int64).toInt = 2 := by decide
    rw [e2]
    show ((x / 2).toInt * 2).bmod (2 ^ 64) % 2 = 0
    rw [ze_bmod2]
    omega
  · intro h
    obtain ⟨k, hk⟩ : ∃ k, x.toInt = 2 * k := ⟨x.toInt / 2, by omega⟩
    have hx : x = Int64.ofInt (2 * k) := by rw [← hk]; exact (ze_ofInt_toInt x).symm
    rw [hx, ze_half (by omega) (by omega), ze_even]
    grind
