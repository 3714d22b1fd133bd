/-! how many bits -/
theorem nI_bits (a : Nat) : (nI a).toBitVec = BitVec.ofNat 32 a := rfl
theorem nI_bit (a j : Nat) (hj : j < 32) : (nI a).toBitVec.getLsbD j = a.testBit j := by
  rw [nI_bits, BitVec.getLsbD_ofNat]; simp [hj]
theorem nI_and (a b : Nat) : nI a &&& nI b = nI (a &&& b) := by
  apply i32_ext
  intro j hj
  rw [Int32.toBitVec_and, BitVec.getLsbD_and, nI_bit _ _ hj, nI_bit _ _ hj, nI_bit _ _ hj, Nat.testBit_and]
theorem nI_or (a b : Nat) : nI a ||| nI b = nI (a ||| b) := by
  apply i32_ext
  intro j hj
  rw [Int32.toBitVec_or, BitVec.getLsbD_or, nI_bit _ _ hj, nI_bit _ _ hj, nI_bit _ _ hj, Nat.testBit_or]
def popf : Nat → Nat → Nat
  | 0, _ => 0
  | k + 1, n => n % 2 + popf k (n / 2)
theorem popf_and : ∀ (k n : Nat), 0 < n → n < 2 ^ k → popf k (n &&& (n - 1)) + 1 = popf k n
  | 0, n, h0, h => by simp at h; omega
  | k + 1, n, h0, h => by
    simp only [popf]
    have e1 : (n &&& (n - 1)) / 2 = (n / 2) &&& ((n - 1) / 2) := Nat.and_div_two
    have e2 : (n &&& (n - 1)) % 2 = 0 := by
      have q : (n &&& (n - 1)) % 2 ^ 1 = (n % 2 ^ 1) &&& ((n - 1) % 2 ^ 1) := Nat.and_mod_two_pow
      simp only [Nat.pow_one] at q
      rw [q]
      rcases Nat.mod_two_eq_zero_or_one n with z | z
      · rw [z, Nat.zero_and]
      · rw [show (n - 1) % 2 = 0 by omega, Nat.and_zero]
    rw [e1, e2]
    rcases Nat.mod_two_eq_zero_or_one n with z | z
    · have := popf_and k (n / 2) (by omega) (by omega)
      rw [show (n - 1) / 2 = n / 2 - 1 by omega, z]
      omega
    · rw [show (n - 1) / 2 = n / 2 by omega, Nat.and_self, z]
      omega

theorem popf_le : ∀ (k n : Nat), popf k n ≤ k
  | 0, _ => Nat.le_refl 0
  | k + 1, n => by
    have := popf_le k (n / 2)
    simp only [popf]
    omega
theorem popf_zero : ∀ k, popf k 0 = 0
  | 0 => rfl
  | k + 1 => by simp only [popf]; rw [popf_zero k]
theorem s12_onesOf {Q : Int32 → Prop} {n : Nat} {M : Mem} (hn : n < 65536) (h : Q (nI (popf 16 n))) : FX12_onesOf Q 166 (nI n) M := by
  unfold FX12_onesOf NX12_onesOf_4
  refine xlp_for (fun r a => ∃ m k, a.1 = nI k ∧ a.2 = nI m ∧ m < 65536 ∧ popf 16 m = r ∧ k + r = popf 16 n) ?_ ?_ (popf 16 n) (0, nI n) ⟨n, 0, rfl, rfl, hn, rfl, by omega⟩
  · rintro ⟨x, y⟩ B ⟨m, k, hx, hy, h1, h2, h3⟩
    have hx : x = nI k := hx
    have hy : y = nI m := hy
    subst hx hy
    show lbX12_onesOf_4 Q M (fun l2 l3 => B (l2, l3)) (nI k) (nI m)
    unfold lbX12_onesOf_4
    refine ⟨fun _ => ?_, fun hc => ?_⟩
    · rw [show k = popf 16 n by omega]; exact h
    · have : m ≠ 0 := by rintro rfl; exact hc rfl
      have := popf_and 16 m (by omega) (by omega)
      omega
  · rintro r ⟨x, y⟩ B ⟨m, k, hx, hy, h1, h2, h3⟩ hB
    have hx : x = nI k := hx
    have hy : y = nI m := hy
    subst hx hy
    show lbX12_onesOf_4 Q M (fun l2 l3 => B (l2, l3)) (nI k) (nI m)
    unfold lbX12_onesOf_4
    have hm : m ≠ 0 := by rintro rfl; rw [popf_zero] at h2; omega
    refine ⟨fun hc => absurd hc (nI_ne0 (by omega) (by omega)), fun _ => ?_⟩
    rw [show nI m - 1 = nI (m - 1) from pk_sub (b := 1) (by omega), nI_and, nI_1]
    have := popf_and 16 m (by omega) (by omega)
    exact hB _ ⟨m &&& (m - 1), k + 1, rfl, rfl, Nat.lt_of_le_of_lt Nat.and_le_left h1, by omega, by omega⟩
/-- as the library counts them -/
def bcN (n : Nat) : Nat :=
  let a := Nat.sub n (Nat.land (Nat.div n 2) 1431655765)
  let b := Nat.add (Nat.land a 858993459) (Nat.land (Nat.div a 4) 858993459)
  let c := Nat.land (Nat.add b (Nat.div b 16)) 252645135
  let d := Nat.add c (Nat.div c 256)
  let e := Nat.add d (Nat.div d 65536)
  Nat.land e 63
def bcP (n : Nat) : Nat := Nat.add (Nat.add (Nat.add (Nat.add (Nat.mod n 2) (Nat.mod (Nat.div n 2) 2)) (Nat.add (Nat.mod (Nat.div n 4) 2) (Nat.mod (Nat.div n 8) 2))) (Nat.add (Nat.add (Nat.mod (Nat.div n 16) 2) (Nat.mod (Nat.div n 32) 2)) (Nat.add (Nat.mod (Nat.div n 64) 2) (Nat.mod (Nat.div n 128) 2)))) (Nat.add (Nat.add (Nat.add (Nat.mod (Nat.div n 256) 2) (Nat.mod (Nat.div n 512) 2)) (Nat.add (Nat.mod (Nat.div n 1024) 2) (Nat.mod (Nat.div n 2048) 2))) (Nat.add (Nat.add (Nat.mod (Nat.div n 4096) 2) (Nat.mod (Nat.div n 8192) 2)) (Nat.add (Nat.mod (Nat.div n 16384) 2) (Nat.mod (Nat.div n 32768) 2))))
def allN (p : Nat → Bool) : Nat → Nat → Bool
  | 0, lo => p lo
  | k + 1, lo => and (allN p k lo) (allN p k (Nat.add lo (Nat.pow 2 k)))
theorem allN_at {p : Nat → Bool} : ∀ {k lo n : Nat}, allN p k lo = true → lo ≤ n → n < lo + 2 ^ k → p n = true
  | 0, lo, n, h, h1, h2 => by
    have : n = lo := by simp at h2; omega
    subst this; exact h
  | k + 1, lo, n, h, h1, h2 => by
    simp only [allN, Bool.and_eq_true] at h
    rcases Nat.lt_or_ge n (lo + 2 ^ k) with q | q
    · exact allN_at h.1 h1 q
    · exact allN_at (lo := lo + 2 ^ k) h.2 q (by rw [Nat.pow_succ] at h2; omega)
theorem bc_all : allN (fun n => Nat.beq (bcN n) (bcP n)) 16 0 = true := by decide +kernel
