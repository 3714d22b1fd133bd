/-! how many bits: the library's way -/
theorem bcP_eq (n : Nat) : bcP n = popf 16 n := by
  show ((((n % 2 + n / 2 % 2) + (n / 4 % 2 + n / 8 % 2)) + ((n / 16 % 2 + n / 32 % 2) + (n / 64 % 2 + n / 128 % 2))) + (((n / 256 % 2 + n / 512 % 2) + (n / 1024 % 2 + n / 2048 % 2)) + ((n / 4096 % 2 + n / 8192 % 2) + (n / 16384 % 2 + n / 32768 % 2)))) = _
  simp only [popf, Nat.div_div_eq_div_mul, Nat.reduceMul]
  omega
theorem bc_pop {n : Nat} (h : n < 65536) : bcN n = popf 16 n := by
  have := allN_at bc_all (Nat.zero_le n) (by omega)
  rw [← bcP_eq]
  exact Nat.eq_of_beq_eq_true this
theorem s_bitCount {Q : Int32 → Prop} {n : Nat} {M : Mem} (hn : n < 65536) (h : Q (nI (popf 16 n))) : FJ6_bitCount_0f7a4 Q (nI n) M := by
  rw [← bc_pop hn] at h
  unfold FJ6_bitCount_0f7a4
  rintro y1 rfl
  rw [pk_ushrN (n := n) (by omega) 1 1 (by decide), show (1431655765 : Int32) = nI 1431655765 from rfl, nI_and, pk_sub (Nat.le_trans Nat.and_le_left (Nat.div_le_self _ _))]
  have ha : n - (n / 2 ^ 1 &&& 1431655765) ≤ n := Nat.sub_le _ _
  have eb : bcN n = (let b := Nat.add (Nat.land (n - (n / 2 ^ 1 &&& 1431655765)) 858993459) (Nat.land (Nat.div (n - (n / 2 ^ 1 &&& 1431655765)) 4) 858993459)
    let c := Nat.land (Nat.add b (Nat.div b 16)) 252645135
    let d := Nat.add c (Nat.div c 256)
    let e := Nat.add d (Nat.div d 65536)
    Nat.land e 63) := rfl
  rw [eb] at h
  clear eb
  generalize n - (n / 2 ^ 1 &&& 1431655765) = a at ha h ⊢
  rintro y2 rfl
  rw [pk_ushrN (n := a) (by omega) 2 2 (by decide), show (858993459 : Int32) = nI 858993459 from rfl, nI_and, nI_and, nI_add]
  have hb : (a &&& 858993459) + (a / 2 ^ 2 &&& 858993459) ≤ a + a := Nat.add_le_add Nat.and_le_left (Nat.le_trans Nat.and_le_left (Nat.div_le_self _ _))
  have h : Q (nI (let b := (a &&& 858993459) + (a / 2 ^ 2 &&& 858993459)
    let c := Nat.land (Nat.add b (Nat.div b 16)) 252645135
    let d := Nat.add c (Nat.div c 256)
    let e := Nat.add d (Nat.div d 65536)
    Nat.land e 63)) := h
  generalize (a &&& 858993459) + (a / 2 ^ 2 &&& 858993459) = b at hb h ⊢
  rintro y3 rfl
  rw [pk_ushrN (n := b) (by omega) 4 4 (by decide), show (252645135 : Int32) = nI 252645135 from rfl, nI_add, nI_and]
  have hc : (b + b / 2 ^ 4 &&& 252645135) ≤ b + b := Nat.le_trans Nat.and_le_left (Nat.add_le_add_left (Nat.div_le_self _ _) b)
  have h : Q (nI (let c := (b + b / 2 ^ 4 &&& 252645135)
    let d := Nat.add c (Nat.div c 256)
    let e := Nat.add d (Nat.div d 65536)
    Nat.land e 63)) := h
  generalize (b + b / 2 ^ 4 &&& 252645135) = c at hc h ⊢
  rintro y4 rfl
  rw [pk_ushrN (n := c) (by omega) 8 8 (by decide), nI_add]
  have hd : c + c / 2 ^ 8 ≤ c + c := Nat.add_le_add_left (Nat.div_le_self _ _) c
  have h : Q (nI (let d := c + c / 2 ^ 8
    let e := Nat.add d (Nat.div d 65536)
    Nat.land e 63)) := h
  generalize c + c / 2 ^ 8 = d at hd h ⊢
  rintro y5 rfl
  rw [pk_ushrN (n := d) (by omega) 16 16 (by decide), nI_add, show (63 : Int32) = nI 63 from rfl, nI_and]
  exact h
