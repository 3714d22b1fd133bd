/-! how many bits -/
theorem nI_bits (a : Nat) : (nI a).toBitVec = BitVec.ofNat 32 a := rfl
theorem nI_bit (a j : Nat) (hj : j < 32) : (nI a).toBitVec.getLsbD j = a.testBit j := by
  rw [nI_bits, BitVec.getLsbD_ofNat]; simp [hj]
theorem nI_and (a b : Nat) : nI a &&& nI b = nI (a &&& b) := by
  apply i32_ext
  intro j hj
  rw [Int32.toBitVec_and, BitVec.getLsbD_and, nI_bit _ _ hj, nI_bit _ _ hj, nI_bit _ _ hj, Nat.testBit_and]
theorem nI_or (a b : Nat) : nI a ||| nI b = nI (a ||| b) := by
  apply i32_ext
  intro j hj
  rw [Int32.toBitVec_or, BitVec.getLsbD_or, nI_bit _ _ hj, nI_bit _ _ hj, nI_bit _ _ hj, Nat.testBit_or]
def popf : Nat → Nat → Nat
  | 0, _ => 0
  | k + 1, n => n % 2 + popf k (n / 2)
theorem popf_and : ∀ (k n : Nat), 0 < n → n < 2 ^ k → popf k (n &&& (n - 1)) + 1 = popf k n
  | 0, n, h0, h => by simp at h; omega
  | k + 1, n, h0, h => by
    simp only [popf]
    have e1 : (n &&& (n - 1)) / 2 = (n / 2) &&& ((n - 1) / 2) := Nat.and_div_two
    have e2 : (n &&& (n - 1)) % 2 = 0 := by
      rcases Nat.mod_two_eq_zero_or_one n with z | z
      · rw [Nat.and_mod_two_eq_zero_of_left z]
      · exact Nat.and_mod_two_eq_zero_of_right (by omega)
    rw [e1, e2]
    rcases Nat.mod_two_eq_zero_or_one n with z | z
    · have := popf_and k (n / 2) (by omega) (by omega)
      rw [show (n - 1) / 2 = n / 2 - 1 by omega, z]
      omega
    · rw [show (n - 1) / 2 = n / 2 by omega, Nat.and_self, z]
      omega
