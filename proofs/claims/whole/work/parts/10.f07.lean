def FX12_far (Q : Int32 → Prop) (l0 : Nat) (l1 : Int32) (l2 : Int32) (M : Mem) : Prop :=
  ((l1 ≤ l2 → Q (l2 - l1)) ∧ (¬ l1 ≤ l2 → Q (l1 - l2)))
theorem eX12_far {Q : Int32 → Prop} {l0 : Nat} {l1 : Int32} {l2 : Int32} {M : Mem} (hk_l0 : SHk l0 = 12) (h : FX12_far Q l0 l1 l2 M) : xX RX12 cX12_far 3 (some .int) 1 0 [(0, .ref l0), (1, .int l1), (2, .int l2)] [] M (xQi (xP M Q)) := by
  unfold FX12_far at h
  refine x_iload_n dX12_far_0 rfl 1 rfl ?_
  refine x_iload_n dX12_far_1 rfl 2 rfl ?_
  refine x_icmp_le dX12_far_2 11 5 rfl rfl (fun hc => ?_) (fun hc => ?_)
  · have h := h.1 hc
    refine x_iload_n dX12_far_11 rfl 12 rfl ?_
    refine x_iload_n dX12_far_12 rfl 13 rfl ?_
    refine x_isub dX12_far_13 14 rfl ?_
    exact x_iret dX12_far_14 ⟨rfl, h⟩
  · have h := h.2 hc
    refine x_iload_n dX12_far_5 rfl 6 rfl ?_
    refine x_iload_n dX12_far_6 rfl 7 rfl ?_
    refine x_isub dX12_far_7 8 rfl ?_
    refine x_goto dX12_far_8 14 rfl ?_
    exact x_iret dX12_far_14 ⟨rfl, h⟩
theorem cX12_far_ {Q : Int32 → Prop} {l0 : Nat} {l1 : Int32} {l2 : Int32} {M : Mem} (hk_l0 : SHk l0 = 12) (h : FX12_far Q l0 l1 l2 M) : xM yX12_far cX12_far 3 (some .int) 1 [.ref l0, .int l1, .int l2] M (xQi (xP M Q)) := xM_of (by decide +kernel) (Nat.le_of_ble_eq_true rfl) (eX12_far hk_l0 h)
theorem kX12_far {own : String} {cc : ByteArray} {nL : Nat} {rt : Option FieldType} {d pc ix : Nat} {L : List (Nat × Value)} {st : List Value} {M : Mem} {Rt : xGt → Array Value → State → Outcome → State → Prop} {Q : Int32 → Prop} {l0 : Nat} {l1 : Int32} {l2 : Int32} (hd : decode cc pc = .ok (.invokevirtual ix, 3)) (q : Nat) (hq : pc + 3 = q) (hk_l0 : SHk l0 = 12) (w1 : Cond.methodLink own ix yX12_far ∈ xTs) (hr : 1 < d) (hst : (st.map fun v => v.category).sum ≤ 8) (h : FX12_far Q l0 l1 l2 M) (k : ∀ (r : Int32), Q r → xX own cc nL rt d q L (.int r :: st) M Rt) : xX own cc nL rt d pc L (.int l2 :: .int l1 :: .ref l0 :: st) M Rt :=
  x_callV_i (n := 2) (As := [.int l1, .int l2]) hd q hq hk_l0 (by decide) rfl rfl w1 kw8_4 ks8_2 kw1_14 kw8_5 (by decide +kernel) rfl hr (by decide) hst _ rfl (cX12_far_ hk_l0 h) (fun r N hN => by obtain ⟨rfl, hN⟩ := hN; exact k r hN)
def FX12_partOf (Q : Int32 → Prop) (l0 : Nat) (l1 : Int32) (l2 : Int32) (M : Mem) : Prop :=
  ((l1 < 0 → (¬ (l2 : Int32) = 0) ∧ Q (-(((l2 - 1) - l1) / l2))) ∧ (¬ l1 < 0 → (¬ (l2 : Int32) = 0) ∧ Q (l1 / l2)))
theorem eX12_partOf {Q : Int32 → Prop} {l0 : Nat} {l1 : Int32} {l2 : Int32} {M : Mem} (hk_l0 : SHk l0 = 12) (h : FX12_partOf Q l0 l1 l2 M) : xX RX12 cX12_partOf 3 (some .int) 1 0 [(0, .ref l0), (1, .int l1), (2, .int l2)] [] M (xQi (xP M Q)) := by
  unfold FX12_partOf at h
  refine x_iload_n dX12_partOf_0 rfl 1 rfl ?_
  refine x_if_lt dX12_partOf_1 10 4 rfl rfl (fun hc => ?_) (fun hc => ?_)
  · have h := h.1 hc
    refine x_iload_n dX12_partOf_10 rfl 11 rfl ?_
    refine x_iconst dX12_partOf_11 kc_1 12 rfl ?_
    refine x_isub dX12_partOf_12 13 rfl ?_
    refine x_iload_n dX12_partOf_13 rfl 14 rfl ?_
    refine x_isub dX12_partOf_14 15 rfl ?_
    refine x_iload_n dX12_partOf_15 rfl 16 rfl ?_
    obtain ⟨hne, h⟩ := h
    refine x_idiv dX12_partOf_16 hne 17 rfl ?_
    refine x_ineg dX12_partOf_17 18 rfl ?_
    exact x_iret dX12_partOf_18 ⟨rfl, h⟩
  · have h := h.2 hc
    refine x_iload_n dX12_partOf_4 rfl 5 rfl ?_
    refine x_iload_n dX12_partOf_5 rfl 6 rfl ?_
    obtain ⟨hne, h⟩ := h
    refine x_idiv dX12_partOf_6 hne 7 rfl ?_
    refine x_goto dX12_partOf_7 18 rfl ?_
    exact x_iret dX12_partOf_18 ⟨rfl, h⟩
theorem cX12_partOf_ {Q : Int32 → Prop} {l0 : Nat} {l1 : Int32} {l2 : Int32} {M : Mem} (hk_l0 : SHk l0 = 12) (h : FX12_partOf Q l0 l1 l2 M) : xM yX12_partOf cX12_partOf 3 (some .int) 1 [.ref l0, .int l1, .int l2] M (xQi (xP M Q)) := xM_of (by decide +kernel) (Nat.le_of_ble_eq_true rfl) (eX12_partOf hk_l0 h)
theorem kX12_partOf {own : String} {cc : ByteArray} {nL : Nat} {rt : Option FieldType} {d pc ix : Nat} {L : List (Nat × Value)} {st : List Value} {M : Mem} {Rt : xGt → Array Value → State → Outcome → State → Prop} {Q : Int32 → Prop} {l0 : Nat} {l1 : Int32} {l2 : Int32} (hd : decode cc pc = .ok (.invokevirtual ix, 3)) (q : Nat) (hq : pc + 3 = q) (hk_l0 : SHk l0 = 12) (w1 : Cond.methodLink own ix yX12_partOf ∈ xTs) (hr : 1 < d) (hst : (st.map fun v => v.category).sum ≤ 8) (h : FX12_partOf Q l0 l1 l2 M) (k : ∀ (r : Int32), Q r → xX own cc nL rt d q L (.int r :: st) M Rt) : xX own cc nL rt d pc L (.int l2 :: .int l1 :: .ref l0 :: st) M Rt :=
  x_callV_i (n := 2) (As := [.int l1, .int l2]) hd q hq hk_l0 (by decide) rfl rfl w1 kw7_148 ks7_5 kw1_14 kw7_149 (by decide +kernel) rfl hr (by decide) hst _ rfl (cX12_partOf_ hk_l0 h) (fun r N hN => by obtain ⟨rfl, hN⟩ := hN; exact k r hN)
def lbX12_onesOf_4 (Q : Int32 → Prop) (M : Mem) (B4 : Int32 → Int32 → Prop) (l2 : Int32) (l3 : Int32) : Prop :=
  ((l3 = 0 → Q l2) ∧ (¬ l3 = 0 → B4 (l2 + 1) (l3 &&& (l3 - 1))))
def NX12_onesOf_4 (Q : Int32 → Prop) (l2 : Int32) (l3 : Int32) (M : Mem) : Prop := xlp (fun (B : Int32 × Int32 → Prop) a => lbX12_onesOf_4 Q M (fun l2 l3 => B (l2, l3)) a.1 a.2) (l2, l3)
theorem nX12_onesOf_4 {Q : Int32 → Prop} {l2 : Int32} {l3 : Int32} {M : Mem} (h : NX12_onesOf_4 Q l2 l3 M) : xX RX12 cX12_onesOf 4 (some .int) 1 4 [(2, .int l2), (3, .int l3)] [] M (xQi (xP M Q)) := by
  obtain ⟨n, h⟩ := h
  have hB4 : ∀ (n : Nat) (l2 : Int32) (l3 : Int32), xlpn (fun (B : Int32 × Int32 → Prop) a => lbX12_onesOf_4 Q M (fun l2 l3 => B (l2, l3)) a.1 a.2) n (l2, l3) → xX RX12 cX12_onesOf 4 (some .int) 1 4 [(2, .int l2), (3, .int l3)] [] M (xQi (xP M Q)) := by
    intro n
    induction n with
    | zero => intro l2 l3 h; exact False.elim h
    | succ n ih =>
      intro l2 l3 h
      have hB4 := ih
      have h : lbX12_onesOf_4 Q M (fun l2 l3 => xlpn (fun (B : Int32 × Int32 → Prop) a => lbX12_onesOf_4 Q M (fun l2 l3 => B (l2, l3)) a.1 a.2) n (l2, l3)) l2 l3 := h
      unfold lbX12_onesOf_4 at h
      refine x_iload_n dX12_onesOf_4 rfl 5 rfl ?_
      refine x_if_eq dX12_onesOf_5 21 8 rfl rfl (fun hc => ?_) (fun hc => ?_)
      · have h := h.1 hc
        refine x_iload_n dX12_onesOf_21 rfl 22 rfl ?_
        exact x_iret dX12_onesOf_22 ⟨rfl, h⟩
      · have h := h.2 hc
        refine x_iload_n dX12_onesOf_8 rfl 9 rfl ?_
        refine x_iconst dX12_onesOf_9 kc_1 10 rfl ?_
        refine x_iadd dX12_onesOf_10 11 rfl ?_
        refine x_istore_n dX12_onesOf_11 (Nat.le_of_ble_eq_true rfl) [(2, .int (l2 + 1)), (3, .int l3)] rfl 12 rfl ?_
        refine x_iload_n dX12_onesOf_12 rfl 13 rfl ?_
        refine x_iload_n dX12_onesOf_13 rfl 14 rfl ?_
        refine x_iconst dX12_onesOf_14 kc_1 15 rfl ?_
        refine x_isub dX12_onesOf_15 16 rfl ?_
        refine x_iand dX12_onesOf_16 17 rfl ?_
        refine x_istore_n dX12_onesOf_17 (Nat.le_of_ble_eq_true rfl) [(2, .int (l2 + 1)), (3, .int (l3 &&& (l3 - 1)))] rfl 18 rfl ?_
        refine x_goto dX12_onesOf_18 4 rfl ?_
        exact hB4 _ _ h
  exact hB4 n l2 l3 h
def FX12_onesOf (Q : Int32 → Prop) (l0 : Nat) (l1 : Int32) (M : Mem) : Prop :=
  NX12_onesOf_4 Q 0 l1 M
theorem eX12_onesOf {Q : Int32 → Prop} {l0 : Nat} {l1 : Int32} {M : Mem} (hk_l0 : SHk l0 = 12) (h : FX12_onesOf Q l0 l1 M) : xX RX12 cX12_onesOf 4 (some .int) 1 0 [(0, .ref l0), (1, .int l1)] [] M (xQi (xP M Q)) := by
  unfold FX12_onesOf at h
  refine x_iconst dX12_onesOf_0 kc_0 1 rfl ?_
  refine x_istore_n dX12_onesOf_1 (Nat.le_of_ble_eq_true rfl) [(0, .ref l0), (1, .int l1), (2, .int 0)] rfl 2 rfl ?_
  refine x_iload_n dX12_onesOf_2 rfl 3 rfl ?_
  refine x_istore_n dX12_onesOf_3 (Nat.le_of_ble_eq_true rfl) [(0, .ref l0), (1, .int l1), (2, .int 0), (3, .int l1)] rfl 4 rfl ?_
  refine x_weak [(2, .int 0), (3, .int l1)] [2, 3] rfl ?_
  exact nX12_onesOf_4 h
theorem cX12_onesOf_ {Q : Int32 → Prop} {l0 : Nat} {l1 : Int32} {M : Mem} (hk_l0 : SHk l0 = 12) (h : FX12_onesOf Q l0 l1 M) : xM yX12_onesOf cX12_onesOf 4 (some .int) 1 [.ref l0, .int l1] M (xQi (xP M Q)) := xM_of (by decide +kernel) (Nat.le_of_ble_eq_true rfl) (eX12_onesOf hk_l0 h)
theorem kX12_onesOf {own : String} {cc : ByteArray} {nL : Nat} {rt : Option FieldType} {d pc ix : Nat} {L : List (Nat × Value)} {st : List Value} {M : Mem} {Rt : xGt → Array Value → State → Outcome → State → Prop} {Q : Int32 → Prop} {l0 : Nat} {l1 : Int32} (hd : decode cc pc = .ok (.invokevirtual ix, 3)) (q : Nat) (hq : pc + 3 = q) (hk_l0 : SHk l0 = 12) (w1 : Cond.methodLink own ix yX12_onesOf ∈ xTs) (hr : 1 < d) (hst : (st.map fun v => v.category).sum ≤ 8) (h : FX12_onesOf Q l0 l1 M) (k : ∀ (r : Int32), Q r → xX own cc nL rt d q L (.int r :: st) M Rt) : xX own cc nL rt d pc L (.int l1 :: .ref l0 :: st) M Rt :=
  x_callV_i (n := 1) (As := [.int l1]) hd q hq hk_l0 (by decide) rfl rfl w1 kw7_202 ks7_13 kw1_14 kw7_203 (by decide +kernel) rfl hr (by decide) hst _ rfl (cX12_onesOf_ hk_l0 h) (fun r N hN => by obtain ⟨rfl, hN⟩ := hN; exact k r hN)
def FX12_has (Q : Bool → Prop) (l0 : Nat) (l1 : Int32) (l2 : Int32) (M : Mem) : Prop :=
  ((¬ ((l1 >>> (l2 &&& 31)) &&& 1) = 1 → Q false) ∧ (((l1 >>> (l2 &&& 31)) &&& 1) = 1 → Q true))
theorem eX12_has {Q : Bool → Prop} {l0 : Nat} {l1 : Int32} {l2 : Int32} {M : Mem} (hk_l0 : SHk l0 = 12) (h : FX12_has Q l0 l1 l2 M) : xX RX12 cX12_has 3 (some .boolean) 1 0 [(0, .ref l0), (1, .int l1), (2, .int l2)] [] M (xQb (xP M Q)) := by
  unfold FX12_has at h
  refine x_iload_n dX12_has_0 rfl 1 rfl ?_
  refine x_iload_n dX12_has_1 rfl 2 rfl ?_
  refine x_ishr dX12_has_2 3 rfl ?_
  refine x_iconst dX12_has_3 kc_1 4 rfl ?_
  refine x_iand dX12_has_4 5 rfl ?_
  refine x_iconst dX12_has_5 kc_1 6 rfl ?_
  refine x_icmp_ne dX12_has_6 13 9 rfl rfl (fun hc => ?_) (fun hc => ?_)
  · have h := h.1 hc
    refine x_iconst dX12_has_13 kc_0 14 rfl ?_
    exact x_zret (z := false) dX12_has_14 ⟨rfl, h⟩
  · have h := h.2 hc
    refine x_iconst dX12_has_9 kc_1 10 rfl ?_
    refine x_goto dX12_has_10 14 rfl ?_
    exact x_zret (z := true) dX12_has_14 ⟨rfl, h⟩
theorem cX12_has_ {Q : Bool → Prop} {l0 : Nat} {l1 : Int32} {l2 : Int32} {M : Mem} (hk_l0 : SHk l0 = 12) (h : FX12_has Q l0 l1 l2 M) : xM yX12_has cX12_has 3 (some .boolean) 1 [.ref l0, .int l1, .int l2] M (xQb (xP M Q)) := xM_of (by decide +kernel) (Nat.le_of_ble_eq_true rfl) (eX12_has hk_l0 h)
theorem kX12_has {own : String} {cc : ByteArray} {nL : Nat} {rt : Option FieldType} {d pc ix : Nat} {L : List (Nat × Value)} {st : List Value} {M : Mem} {Rt : xGt → Array Value → State → Outcome → State → Prop} {Q : Bool → Prop} {l0 : Nat} {l1 : Int32} {l2 : Int32} (hd : decode cc pc = .ok (.invokevirtual ix, 3)) (q : Nat) (hq : pc + 3 = q) (hk_l0 : SHk l0 = 12) (w1 : Cond.methodLink own ix yX12_has ∈ xTs) (hr : 1 < d) (hst : (st.map fun v => v.category).sum ≤ 8) (h : FX12_has Q l0 l1 l2 M) (k : ∀ (r : Bool), Q r → xX own cc nL rt d q L (.int (bI r) :: st) M Rt) : xX own cc nL rt d pc L (.int l2 :: .int l1 :: .ref l0 :: st) M Rt :=
  x_callV_b (n := 2) (As := [.int l1, .int l2]) hd q hq hk_l0 (by decide) rfl rfl w1 kw8_25 ks8_5 kw1_14 kw8_26 (by decide +kernel) rfl hr (by decide) hst _ rfl (cX12_has_ hk_l0 h) (fun r N hN => by obtain ⟨rfl, hN⟩ := hN; exact k r hN)
def lbX12_keepsAhead_55 (Q : Mem → Prop) (l0 : Nat) (B55 : Int32 → Mem → Prop) (l1 : Int32) (M : Mem) : Prop :=
  ((107 ≤ l1 → ∀ M1 : Mem, M1 = xu M l0 3 ((M l0 3) + 1) → Q M1) ∧ (¬ 107 ≤ l1 → vp_in l1 107 ∧ vp_in ((107 * (M l0 3)) + l1) 642 ∧ ∀ M2 : Mem, M2 = xu M (l0 + 2) (ix ((107 * (M l0 3)) + l1)) (M (l0 + 1) (ix l1)) → B55 (l1 + 1) M2))
def NX12_keepsAhead_55 (Q : Mem → Prop) (l0 : Nat) (l1 : Int32) (M : Mem) : Prop := xlp (fun (B : Int32 × Mem → Prop) a => lbX12_keepsAhead_55 Q l0 (fun l1 M => B (l1, M)) a.1 a.2) (l1, M)
theorem nX12_keepsAhead_55 {Q : Mem → Prop} {l0 : Nat} {l1 : Int32} {M : Mem} (hk_l0 : SHk l0 = 12) (h : NX12_keepsAhead_55 Q l0 l1 M) : xX RX12 cX12_keepsAhead 2 none 1 55 [(0, .ref l0), (1, .int l1)] [] M (xQv Q) := by
  obtain ⟨n, h⟩ := h
  have hB55 : ∀ (n : Nat) (l1 : Int32) (M : Mem), xlpn (fun (B : Int32 × Mem → Prop) a => lbX12_keepsAhead_55 Q l0 (fun l1 M => B (l1, M)) a.1 a.2) n (l1, M) → xX RX12 cX12_keepsAhead 2 none 1 55 [(0, .ref l0), (1, .int l1)] [] M (xQv Q) := by
    intro n
    induction n with
    | zero => intro l1 M h; exact False.elim h
    | succ n ih =>
      intro l1 M h
      have hB55 := ih
      have h : lbX12_keepsAhead_55 Q l0 (fun l1 M => xlpn (fun (B : Int32 × Mem → Prop) a => lbX12_keepsAhead_55 Q l0 (fun l1 M => B (l1, M)) a.1 a.2) n (l1, M)) l1 M := h
      unfold lbX12_keepsAhead_55 at h
      refine x_iload_n dX12_keepsAhead_55 rfl 56 rfl ?_
      refine x_bipush dX12_keepsAhead_56 kb_107 58 rfl ?_
      refine x_icmp_ge dX12_keepsAhead_58 87 61 rfl rfl (fun hc => ?_) (fun hc => ?_)
      · have h := h.1 hc
        refine x_aload_n dX12_keepsAhead_87 rfl 88 rfl ?_
        refine x_aload_n dX12_keepsAhead_88 rfl 89 rfl ?_
        refine gf12_3 dX12_keepsAhead_89 92 rfl hk_l0 kw5_162 ?_
        refine x_iconst dX12_keepsAhead_92 kc_1 93 rfl ?_
        refine x_iadd dX12_keepsAhead_93 94 rfl ?_
        refine pf12_3 dX12_keepsAhead_94 97 rfl hk_l0 kw5_162 (x_mem (fun M1 hM1 => ?_))
        have h := h M1 hM1
        exact x_vret dX12_keepsAhead_97 h
      · have h := h.2 hc
        refine x_aload_n dX12_keepsAhead_61 rfl 62 rfl ?_
        refine gf12_2 dX12_keepsAhead_62 65 rfl hk_l0 kw5_161 ?_
        refine x_bipush dX12_keepsAhead_65 kb_107 67 rfl ?_
        refine x_aload_n dX12_keepsAhead_67 rfl 68 rfl ?_
        refine gf12_3 dX12_keepsAhead_68 71 rfl hk_l0 kw5_162 ?_
        refine x_imul dX12_keepsAhead_71 72 rfl ?_
        refine x_iload_n dX12_keepsAhead_72 rfl 73 rfl ?_
        refine x_iadd dX12_keepsAhead_73 74 rfl ?_
        refine x_aload_n dX12_keepsAhead_74 rfl 75 rfl ?_
        refine gf12_1 dX12_keepsAhead_75 78 rfl hk_l0 kw5_160 ?_
        refine x_iload_n dX12_keepsAhead_78 rfl 79 rfl ?_
        obtain ⟨hin, h⟩ := h
        refine x_iaload dX12_keepsAhead_79 (ly12_1 hk_l0) hin 80 rfl ?_
        obtain ⟨hin, h⟩ := h
        refine x_iastore dX12_keepsAhead_80 (ly12_2 hk_l0) hin 81 rfl (x_mem (fun M2 hM2 => ?_))
        have h := h M2 hM2
        refine x_iinc dX12_keepsAhead_81 rfl (congrArg (l1 + ·) kc_1) (Nat.le_of_ble_eq_true rfl) [(0, .ref l0), (1, .int (l1 + 1))] rfl 84 rfl ?_
        refine x_goto dX12_keepsAhead_84 55 rfl ?_
        exact hB55 _ _ h
  exact hB55 n l1 M h
def lbX12_keepsAhead_21 (Q : Mem → Prop) (l0 : Nat) (B21 : Int32 → Mem → Prop) (l1 : Int32) (M : Mem) : Prop :=
  (((107 * (M l0 3)) ≤ l1 → NX12_keepsAhead_55 Q l0 0 M) ∧ (¬ (107 * (M l0 3)) ≤ l1 → vp_in (l1 + 107) 642 ∧ vp_in l1 642 ∧ ∀ M3 : Mem, M3 = xu M (l0 + 2) (ix l1) (M (l0 + 2) (ix (l1 + 107))) → B21 (l1 + 1) M3))
def NX12_keepsAhead_21 (Q : Mem → Prop) (l0 : Nat) (l1 : Int32) (M : Mem) : Prop := xlp (fun (B : Int32 × Mem → Prop) a => lbX12_keepsAhead_21 Q l0 (fun l1 M => B (l1, M)) a.1 a.2) (l1, M)
theorem nX12_keepsAhead_21 {Q : Mem → Prop} {l0 : Nat} {l1 : Int32} {M : Mem} (hk_l0 : SHk l0 = 12) (h : NX12_keepsAhead_21 Q l0 l1 M) : xX RX12 cX12_keepsAhead 2 none 1 21 [(0, .ref l0), (1, .int l1)] [] M (xQv Q) := by
  obtain ⟨n, h⟩ := h
  have hB21 : ∀ (n : Nat) (l1 : Int32) (M : Mem), xlpn (fun (B : Int32 × Mem → Prop) a => lbX12_keepsAhead_21 Q l0 (fun l1 M => B (l1, M)) a.1 a.2) n (l1, M) → xX RX12 cX12_keepsAhead 2 none 1 21 [(0, .ref l0), (1, .int l1)] [] M (xQv Q) := by
    intro n
    induction n with
    | zero => intro l1 M h; exact False.elim h
    | succ n ih =>
      intro l1 M h
      have hB21 := ih
      have h : lbX12_keepsAhead_21 Q l0 (fun l1 M => xlpn (fun (B : Int32 × Mem → Prop) a => lbX12_keepsAhead_21 Q l0 (fun l1 M => B (l1, M)) a.1 a.2) n (l1, M)) l1 M := h
      unfold lbX12_keepsAhead_21 at h
      refine x_iload_n dX12_keepsAhead_21 rfl 22 rfl ?_
      refine x_bipush dX12_keepsAhead_22 kb_107 24 rfl ?_
      refine x_aload_n dX12_keepsAhead_24 rfl 25 rfl ?_
      refine gf12_3 dX12_keepsAhead_25 28 rfl hk_l0 kw5_162 ?_
      refine x_imul dX12_keepsAhead_28 29 rfl ?_
      refine x_icmp_ge dX12_keepsAhead_29 53 32 rfl rfl (fun hc => ?_) (fun hc => ?_)
      · have h := h.1 hc
        refine x_iconst dX12_keepsAhead_53 kc_0 54 rfl ?_
        refine x_istore_n dX12_keepsAhead_54 (Nat.le_of_ble_eq_true rfl) [(0, .ref l0), (1, .int 0)] rfl 55 rfl ?_
        exact nX12_keepsAhead_55 hk_l0 h
      · have h := h.2 hc
        refine x_aload_n dX12_keepsAhead_32 rfl 33 rfl ?_
        refine gf12_2 dX12_keepsAhead_33 36 rfl hk_l0 kw5_161 ?_
        refine x_iload_n dX12_keepsAhead_36 rfl 37 rfl ?_
        refine x_aload_n dX12_keepsAhead_37 rfl 38 rfl ?_
        refine gf12_2 dX12_keepsAhead_38 41 rfl hk_l0 kw5_161 ?_
        refine x_iload_n dX12_keepsAhead_41 rfl 42 rfl ?_
        refine x_bipush dX12_keepsAhead_42 kb_107 44 rfl ?_
        refine x_iadd dX12_keepsAhead_44 45 rfl ?_
        obtain ⟨hin, h⟩ := h
        refine x_iaload dX12_keepsAhead_45 (ly12_2 hk_l0) hin 46 rfl ?_
        obtain ⟨hin, h⟩ := h
        refine x_iastore dX12_keepsAhead_46 (ly12_2 hk_l0) hin 47 rfl (x_mem (fun M3 hM3 => ?_))
        have h := h M3 hM3
        refine x_iinc dX12_keepsAhead_47 rfl (congrArg (l1 + ·) kc_1) (Nat.le_of_ble_eq_true rfl) [(0, .ref l0), (1, .int (l1 + 1))] rfl 50 rfl ?_
        refine x_goto dX12_keepsAhead_50 21 rfl ?_
        exact hB21 _ _ h
  exact hB21 n l1 M h
def FX12_keepsAhead (Q : Mem → Prop) (l0 : Nat) (M : Mem) : Prop :=
  ((¬ (M l0 3) = 6 → NX12_keepsAhead_55 Q l0 0 M) ∧ ((M l0 3) = 6 → ∀ M4 : Mem, M4 = xu M l0 3 ((M l0 3) - 1) → NX12_keepsAhead_21 Q l0 0 M4))
theorem eX12_keepsAhead {Q : Mem → Prop} {l0 : Nat} {M : Mem} (hk_l0 : SHk l0 = 12) (h : FX12_keepsAhead Q l0 M) : xX RX12 cX12_keepsAhead 2 none 1 0 [(0, .ref l0)] [] M (xQv Q) := by
  unfold FX12_keepsAhead at h
  refine x_aload_n dX12_keepsAhead_0 rfl 1 rfl ?_
  refine gf12_3 dX12_keepsAhead_1 4 rfl hk_l0 kw5_162 ?_
  refine x_bipush dX12_keepsAhead_4 kb_6 6 rfl ?_
  refine x_icmp_ne dX12_keepsAhead_6 53 9 rfl rfl (fun hc => ?_) (fun hc => ?_)
  · have h := h.1 hc
    refine x_iconst dX12_keepsAhead_53 kc_0 54 rfl ?_
    refine x_istore_n dX12_keepsAhead_54 (Nat.le_of_ble_eq_true rfl) [(0, .ref l0), (1, .int 0)] rfl 55 rfl ?_
    exact nX12_keepsAhead_55 hk_l0 h
  · have h := h.2 hc
    refine x_aload_n dX12_keepsAhead_9 rfl 10 rfl ?_
    refine x_aload_n dX12_keepsAhead_10 rfl 11 rfl ?_
    refine gf12_3 dX12_keepsAhead_11 14 rfl hk_l0 kw5_162 ?_
    refine x_iconst dX12_keepsAhead_14 kc_1 15 rfl ?_
    refine x_isub dX12_keepsAhead_15 16 rfl ?_
    refine pf12_3 dX12_keepsAhead_16 19 rfl hk_l0 kw5_162 (x_mem (fun M4 hM4 => ?_))
    have h := h M4 hM4
    refine x_iconst dX12_keepsAhead_19 kc_0 20 rfl ?_
    refine x_istore_n dX12_keepsAhead_20 (Nat.le_of_ble_eq_true rfl) [(0, .ref l0), (1, .int 0)] rfl 21 rfl ?_
    exact nX12_keepsAhead_21 hk_l0 h
theorem cX12_keepsAhead_ {Q : Mem → Prop} {l0 : Nat} {M : Mem} (hk_l0 : SHk l0 = 12) (h : FX12_keepsAhead Q l0 M) : xM yX12_keepsAhead cX12_keepsAhead 2 none 1 [.ref l0] M (xQv Q) := xM_of (by decide +kernel) (Nat.le_of_ble_eq_true rfl) (eX12_keepsAhead hk_l0 h)
theorem kX12_keepsAhead {own : String} {cc : ByteArray} {nL : Nat} {rt : Option FieldType} {d pc ix : Nat} {L : List (Nat × Value)} {st : List Value} {M : Mem} {Rt : xGt → Array Value → State → Outcome → State → Prop} {Q : Mem → Prop} {l0 : Nat} (hd : decode cc pc = .ok (.invokevirtual ix, 3)) (q : Nat) (hq : pc + 3 = q) (hk_l0 : SHk l0 = 12) (w1 : Cond.methodLink own ix yX12_keepsAhead ∈ xTs) (hr : 1 < d) (hst : (st.map fun v => v.category).sum ≤ 8) (h : FX12_keepsAhead Q l0 M) (k : ∀ (N : Mem), Q N → xX own cc nL rt d q L st N Rt) : xX own cc nL rt d pc L (.ref l0 :: st) M Rt :=
  x_callV_v (n := 0) (As := []) hd q hq hk_l0 (by decide) rfl rfl w1 kw7_56 ks5_15 kw1_14 kw7_57 (by decide +kernel) rfl hr (by decide) hst _ rfl (cX12_keepsAhead_ hk_l0 h) k
def lbX12_undo_26 (Q : Bool → Mem → Prop) (l0 : Nat) (B26 : Int32 → Mem → Prop) (l1 : Int32) (M : Mem) : Prop :=
  ((107 ≤ l1 → Q true M) ∧ (¬ 107 ≤ l1 → vp_in ((107 * (M l0 3)) + l1) 642 ∧ vp_in l1 107 ∧ ∀ M1 : Mem, M1 = xu M (l0 + 1) (ix l1) (M (l0 + 2) (ix ((107 * (M l0 3)) + l1))) → B26 (l1 + 1) M1))
def NX12_undo_26 (Q : Bool → Mem → Prop) (l0 : Nat) (l1 : Int32) (M : Mem) : Prop := xlp (fun (B : Int32 × Mem → Prop) a => lbX12_undo_26 Q l0 (fun l1 M => B (l1, M)) a.1 a.2) (l1, M)
theorem nX12_undo_26 {Q : Bool → Mem → Prop} {l0 : Nat} {l1 : Int32} {M : Mem} (hk_l0 : SHk l0 = 12) (h : NX12_undo_26 Q l0 l1 M) : xX RX12 cX12_undo 2 (some .boolean) 1 26 [(0, .ref l0), (1, .int l1)] [] M (xQb Q) := by
  obtain ⟨n, h⟩ := h
  have hB26 : ∀ (n : Nat) (l1 : Int32) (M : Mem), xlpn (fun (B : Int32 × Mem → Prop) a => lbX12_undo_26 Q l0 (fun l1 M => B (l1, M)) a.1 a.2) n (l1, M) → xX RX12 cX12_undo 2 (some .boolean) 1 26 [(0, .ref l0), (1, .int l1)] [] M (xQb Q) := by
    intro n
    induction n with
    | zero => intro l1 M h; exact False.elim h
    | succ n ih =>
      intro l1 M h
      have hB26 := ih
      have h : lbX12_undo_26 Q l0 (fun l1 M => xlpn (fun (B : Int32 × Mem → Prop) a => lbX12_undo_26 Q l0 (fun l1 M => B (l1, M)) a.1 a.2) n (l1, M)) l1 M := h
      unfold lbX12_undo_26 at h
      refine x_iload_n dX12_undo_26 rfl 27 rfl ?_
      refine x_bipush dX12_undo_27 kb_107 29 rfl ?_
      refine x_icmp_ge dX12_undo_29 58 32 rfl rfl (fun hc => ?_) (fun hc => ?_)
      · have h := h.1 hc
        refine x_iconst dX12_undo_58 kc_1 59 rfl ?_
        exact x_zret (z := true) dX12_undo_59 h
      · have h := h.2 hc
        refine x_aload_n dX12_undo_32 rfl 33 rfl ?_
        refine gf12_1 dX12_undo_33 36 rfl hk_l0 kw5_160 ?_
        refine x_iload_n dX12_undo_36 rfl 37 rfl ?_
        refine x_aload_n dX12_undo_37 rfl 38 rfl ?_
        refine gf12_2 dX12_undo_38 41 rfl hk_l0 kw5_161 ?_
        refine x_bipush dX12_undo_41 kb_107 43 rfl ?_
        refine x_aload_n dX12_undo_43 rfl 44 rfl ?_
        refine gf12_3 dX12_undo_44 47 rfl hk_l0 kw5_162 ?_
        refine x_imul dX12_undo_47 48 rfl ?_
        refine x_iload_n dX12_undo_48 rfl 49 rfl ?_
        refine x_iadd dX12_undo_49 50 rfl ?_
        obtain ⟨hin, h⟩ := h
        refine x_iaload dX12_undo_50 (ly12_2 hk_l0) hin 51 rfl ?_
        obtain ⟨hin, h⟩ := h
        refine x_iastore dX12_undo_51 (ly12_1 hk_l0) hin 52 rfl (x_mem (fun M1 hM1 => ?_))
        have h := h M1 hM1
        refine x_iinc dX12_undo_52 rfl (congrArg (l1 + ·) kc_1) (Nat.le_of_ble_eq_true rfl) [(0, .ref l0), (1, .int (l1 + 1))] rfl 55 rfl ?_
        refine x_goto dX12_undo_55 26 rfl ?_
        exact hB26 _ _ h
  exact hB26 n l1 M h
def FX12_undo (Q : Bool → Mem → Prop) (l0 : Nat) (M : Mem) : Prop :=
  ∀ M2 : Mem, M2 = xu M l0 0 0 → ((¬ (M2 l0 3) = 0 → ∀ M3 : Mem, M3 = xu M2 l0 3 ((M2 l0 3) - 1) → NX12_undo_26 Q l0 0 M3) ∧ ((M2 l0 3) = 0 → Q false M2))
theorem eX12_undo {Q : Bool → Mem → Prop} {l0 : Nat} {M : Mem} (hk_l0 : SHk l0 = 12) (h : FX12_undo Q l0 M) : xX RX12 cX12_undo 2 (some .boolean) 1 0 [(0, .ref l0)] [] M (xQb Q) := by
  unfold FX12_undo at h
  refine x_aload_n dX12_undo_0 rfl 1 rfl ?_
  refine x_iconst dX12_undo_1 kc_0 2 rfl ?_
  refine pf12_0 dX12_undo_2 5 rfl hk_l0 kw5_159 (x_mem (fun M2 hM2 => ?_))
  have h := h M2 hM2
  refine x_aload_n dX12_undo_5 rfl 6 rfl ?_
  refine gf12_3 dX12_undo_6 9 rfl hk_l0 kw5_162 ?_
  refine x_if_ne dX12_undo_9 14 12 rfl rfl (fun hc => ?_) (fun hc => ?_)
  · have h := h.1 hc
    refine x_aload_n dX12_undo_14 rfl 15 rfl ?_
    refine x_aload_n dX12_undo_15 rfl 16 rfl ?_
    refine gf12_3 dX12_undo_16 19 rfl hk_l0 kw5_162 ?_
    refine x_iconst dX12_undo_19 kc_1 20 rfl ?_
    refine x_isub dX12_undo_20 21 rfl ?_
    refine pf12_3 dX12_undo_21 24 rfl hk_l0 kw5_162 (x_mem (fun M3 hM3 => ?_))
    have h := h M3 hM3
    refine x_iconst dX12_undo_24 kc_0 25 rfl ?_
    refine x_istore_n dX12_undo_25 (Nat.le_of_ble_eq_true rfl) [(0, .ref l0), (1, .int 0)] rfl 26 rfl ?_
    exact nX12_undo_26 hk_l0 h
  · have h := h.2 hc
    refine x_iconst dX12_undo_12 kc_0 13 rfl ?_
    exact x_zret (z := false) dX12_undo_13 h
theorem cX12_undo_ {Q : Bool → Mem → Prop} {l0 : Nat} {M : Mem} (hk_l0 : SHk l0 = 12) (h : FX12_undo Q l0 M) : xM yX12_undo cX12_undo 2 (some .boolean) 1 [.ref l0] M (xQb Q) := xM_of (by decide +kernel) (Nat.le_of_ble_eq_true rfl) (eX12_undo hk_l0 h)
theorem kX12_undo {own : String} {cc : ByteArray} {nL : Nat} {rt : Option FieldType} {d pc ix : Nat} {L : List (Nat × Value)} {st : List Value} {M : Mem} {Rt : xGt → Array Value → State → Outcome → State → Prop} {Q : Bool → Mem → Prop} {l0 : Nat} (hd : decode cc pc = .ok (.invokevirtual ix, 3)) (q : Nat) (hq : pc + 3 = q) (hk_l0 : SHk l0 = 12) (w1 : Cond.methodLink own ix yX12_undo ∈ xTs) (hr : 1 < d) (hst : (st.map fun v => v.category).sum ≤ 8) (h : FX12_undo Q l0 M) (k : ∀ (r : Bool) (N : Mem), Q r N → xX own cc nL rt d q L (.int (bI r) :: st) N Rt) : xX own cc nL rt d pc L (.ref l0 :: st) M Rt :=
  x_callV_b (n := 0) (As := []) hd q hq hk_l0 (by decide) rfl rfl w1 kw6_71 kw6_72 kw1_14 kw6_73 (by decide +kernel) rfl hr (by decide) hst _ rfl (cX12_undo_ hk_l0 h) k
def lbX12_thinks_2 (Q : Mem → Prop) (l0 : Nat) (B2 : Int32 → Mem → Prop) (l1 : Int32) (M : Mem) : Prop :=
  ((107 ≤ l1 → ∀ M1 : Mem, M1 = xu M l0 5 1 → Q M1) ∧ (¬ 107 ≤ l1 → vp_in l1 107 ∧ vp_in l1 107 ∧ ∀ M2 : Mem, M2 = xu M (l0 + 3) (ix l1) (M (l0 + 1) (ix l1)) → B2 (l1 + 1) M2))
def NX12_thinks_2 (Q : Mem → Prop) (l0 : Nat) (l1 : Int32) (M : Mem) : Prop := xlp (fun (B : Int32 × Mem → Prop) a => lbX12_thinks_2 Q l0 (fun l1 M => B (l1, M)) a.1 a.2) (l1, M)
theorem nX12_thinks_2 {Q : Mem → Prop} {l0 : Nat} {l1 : Int32} {M : Mem} (hk_l0 : SHk l0 = 12) (h : NX12_thinks_2 Q l0 l1 M) : xX RX12 cX12_thinks 2 none 1 2 [(0, .ref l0), (1, .int l1)] [] M (xQv Q) := by
  obtain ⟨n, h⟩ := h
  have hB2 : ∀ (n : Nat) (l1 : Int32) (M : Mem), xlpn (fun (B : Int32 × Mem → Prop) a => lbX12_thinks_2 Q l0 (fun l1 M => B (l1, M)) a.1 a.2) n (l1, M) → xX RX12 cX12_thinks 2 none 1 2 [(0, .ref l0), (1, .int l1)] [] M (xQv Q) := by
    intro n
    induction n with
    | zero => intro l1 M h; exact False.elim h
    | succ n ih =>
      intro l1 M h
      have hB2 := ih
      have h : lbX12_thinks_2 Q l0 (fun l1 M => xlpn (fun (B : Int32 × Mem → Prop) a => lbX12_thinks_2 Q l0 (fun l1 M => B (l1, M)) a.1 a.2) n (l1, M)) l1 M := h
      unfold lbX12_thinks_2 at h
      refine x_iload_n dX12_thinks_2 rfl 3 rfl ?_
      refine x_bipush dX12_thinks_3 kb_107 5 rfl ?_
      refine x_icmp_ge dX12_thinks_5 26 8 rfl rfl (fun hc => ?_) (fun hc => ?_)
      · have h := h.1 hc
        refine x_aload_n dX12_thinks_26 rfl 27 rfl ?_
        refine x_iconst dX12_thinks_27 kc_1 28 rfl ?_
        refine pf12_5 dX12_thinks_28 31 rfl hk_l0 kw5_164 (Or.inr rfl) (x_mem (fun M1 hM1 => ?_))
        have h := h M1 hM1
        exact x_vret dX12_thinks_31 h
      · have h := h.2 hc
        refine x_aload_n dX12_thinks_8 rfl 9 rfl ?_
        refine gf12_4 dX12_thinks_9 12 rfl hk_l0 kw5_163 ?_
        refine x_iload_n dX12_thinks_12 rfl 13 rfl ?_
        refine x_aload_n dX12_thinks_13 rfl 14 rfl ?_
        refine gf12_1 dX12_thinks_14 17 rfl hk_l0 kw5_160 ?_
        refine x_iload_n dX12_thinks_17 rfl 18 rfl ?_
        obtain ⟨hin, h⟩ := h
        refine x_iaload dX12_thinks_18 (ly12_1 hk_l0) hin 19 rfl ?_
        obtain ⟨hin, h⟩ := h
        refine x_iastore dX12_thinks_19 (ly12_4 hk_l0) hin 20 rfl (x_mem (fun M2 hM2 => ?_))
        have h := h M2 hM2
        refine x_iinc dX12_thinks_20 rfl (congrArg (l1 + ·) kc_1) (Nat.le_of_ble_eq_true rfl) [(0, .ref l0), (1, .int (l1 + 1))] rfl 23 rfl ?_
        refine x_goto dX12_thinks_23 2 rfl ?_
        exact hB2 _ _ h
  exact hB2 n l1 M h
def FX12_thinks (Q : Mem → Prop) (l0 : Nat) (M : Mem) : Prop :=
  NX12_thinks_2 Q l0 0 M
theorem eX12_thinks {Q : Mem → Prop} {l0 : Nat} {M : Mem} (hk_l0 : SHk l0 = 12) (h : FX12_thinks Q l0 M) : xX RX12 cX12_thinks 2 none 1 0 [(0, .ref l0)] [] M (xQv Q) := by
  unfold FX12_thinks at h
  refine x_iconst dX12_thinks_0 kc_0 1 rfl ?_
  refine x_istore_n dX12_thinks_1 (Nat.le_of_ble_eq_true rfl) [(0, .ref l0), (1, .int 0)] rfl 2 rfl ?_
  exact nX12_thinks_2 hk_l0 h
theorem cX12_thinks_ {Q : Mem → Prop} {l0 : Nat} {M : Mem} (hk_l0 : SHk l0 = 12) (h : FX12_thinks Q l0 M) : xM yX12_thinks cX12_thinks 2 none 1 [.ref l0] M (xQv Q) := xM_of (by decide +kernel) (Nat.le_of_ble_eq_true rfl) (eX12_thinks hk_l0 h)
theorem kX12_thinks {own : String} {cc : ByteArray} {nL : Nat} {rt : Option FieldType} {d pc ix : Nat} {L : List (Nat × Value)} {st : List Value} {M : Mem} {Rt : xGt → Array Value → State → Outcome → State → Prop} {Q : Mem → Prop} {l0 : Nat} (hd : decode cc pc = .ok (.invokevirtual ix, 3)) (q : Nat) (hq : pc + 3 = q) (hk_l0 : SHk l0 = 12) (w1 : Cond.methodLink own ix yX12_thinks ∈ xTs) (hr : 1 < d) (hst : (st.map fun v => v.category).sum ≤ 8) (h : FX12_thinks Q l0 M) (k : ∀ (N : Mem), Q N → xX own cc nL rt d q L st N Rt) : xX own cc nL rt d pc L (.ref l0 :: st) M Rt :=
  x_callV_v (n := 0) (As := []) hd q hq hk_l0 (by decide) rfl rfl w1 kw7_194 ks7_11 kw1_14 kw7_195 (by decide +kernel) rfl hr (by decide) hst _ rfl (cX12_thinks_ hk_l0 h) k
def lbX12_endsThought_2 (Q : Mem → Prop) (l0 : Nat) (B2 : Int32 → Mem → Prop) (l1 : Int32) (M : Mem) : Prop :=
  ((107 ≤ l1 → ∀ M1 : Mem, M1 = xu M l0 5 0 → Q M1) ∧ (¬ 107 ≤ l1 → vp_in l1 107 ∧ vp_in l1 107 ∧ ∀ M2 : Mem, M2 = xu M (l0 + 1) (ix l1) (M (l0 + 3) (ix l1)) → B2 (l1 + 1) M2))
def NX12_endsThought_2 (Q : Mem → Prop) (l0 : Nat) (l1 : Int32) (M : Mem) : Prop := xlp (fun (B : Int32 × Mem → Prop) a => lbX12_endsThought_2 Q l0 (fun l1 M => B (l1, M)) a.1 a.2) (l1, M)
theorem nX12_endsThought_2 {Q : Mem → Prop} {l0 : Nat} {l1 : Int32} {M : Mem} (hk_l0 : SHk l0 = 12) (h : NX12_endsThought_2 Q l0 l1 M) : xX RX12 cX12_endsThought 2 none 1 2 [(0, .ref l0), (1, .int l1)] [] M (xQv Q) := by
  obtain ⟨n, h⟩ := h
  have hB2 : ∀ (n : Nat) (l1 : Int32) (M : Mem), xlpn (fun (B : Int32 × Mem → Prop) a => lbX12_endsThought_2 Q l0 (fun l1 M => B (l1, M)) a.1 a.2) n (l1, M) → xX RX12 cX12_endsThought 2 none 1 2 [(0, .ref l0), (1, .int l1)] [] M (xQv Q) := by
    intro n
    induction n with
    | zero => intro l1 M h; exact False.elim h
    | succ n ih =>
      intro l1 M h
      have hB2 := ih
      have h : lbX12_endsThought_2 Q l0 (fun l1 M => xlpn (fun (B : Int32 × Mem → Prop) a => lbX12_endsThought_2 Q l0 (fun l1 M => B (l1, M)) a.1 a.2) n (l1, M)) l1 M := h
      unfold lbX12_endsThought_2 at h
      refine x_iload_n dX12_endsThought_2 rfl 3 rfl ?_
      refine x_bipush dX12_endsThought_3 kb_107 5 rfl ?_
      refine x_icmp_ge dX12_endsThought_5 26 8 rfl rfl (fun hc => ?_) (fun hc => ?_)
      · have h := h.1 hc
        refine x_aload_n dX12_endsThought_26 rfl 27 rfl ?_
        refine x_iconst dX12_endsThought_27 kc_0 28 rfl ?_
        refine pf12_5 dX12_endsThought_28 31 rfl hk_l0 kw5_164 (Or.inl rfl) (x_mem (fun M1 hM1 => ?_))
        have h := h M1 hM1
        exact x_vret dX12_endsThought_31 h
      · have h := h.2 hc
        refine x_aload_n dX12_endsThought_8 rfl 9 rfl ?_
        refine gf12_1 dX12_endsThought_9 12 rfl hk_l0 kw5_160 ?_
        refine x_iload_n dX12_endsThought_12 rfl 13 rfl ?_
        refine x_aload_n dX12_endsThought_13 rfl 14 rfl ?_
        refine gf12_4 dX12_endsThought_14 17 rfl hk_l0 kw5_163 ?_
        refine x_iload_n dX12_endsThought_17 rfl 18 rfl ?_
        obtain ⟨hin, h⟩ := h
        refine x_iaload dX12_endsThought_18 (ly12_4 hk_l0) hin 19 rfl ?_
        obtain ⟨hin, h⟩ := h
        refine x_iastore dX12_endsThought_19 (ly12_1 hk_l0) hin 20 rfl (x_mem (fun M2 hM2 => ?_))
        have h := h M2 hM2
        refine x_iinc dX12_endsThought_20 rfl (congrArg (l1 + ·) kc_1) (Nat.le_of_ble_eq_true rfl) [(0, .ref l0), (1, .int (l1 + 1))] rfl 23 rfl ?_
        refine x_goto dX12_endsThought_23 2 rfl ?_
        exact hB2 _ _ h
  exact hB2 n l1 M h
def FX12_endsThought (Q : Mem → Prop) (l0 : Nat) (M : Mem) : Prop :=
  NX12_endsThought_2 Q l0 0 M
theorem eX12_endsThought {Q : Mem → Prop} {l0 : Nat} {M : Mem} (hk_l0 : SHk l0 = 12) (h : FX12_endsThought Q l0 M) : xX RX12 cX12_endsThought 2 none 1 0 [(0, .ref l0)] [] M (xQv Q) := by
  unfold FX12_endsThought at h
  refine x_iconst dX12_endsThought_0 kc_0 1 rfl ?_
  refine x_istore_n dX12_endsThought_1 (Nat.le_of_ble_eq_true rfl) [(0, .ref l0), (1, .int 0)] rfl 2 rfl ?_
  exact nX12_endsThought_2 hk_l0 h
theorem cX12_endsThought_ {Q : Mem → Prop} {l0 : Nat} {M : Mem} (hk_l0 : SHk l0 = 12) (h : FX12_endsThought Q l0 M) : xM yX12_endsThought cX12_endsThought 2 none 1 [.ref l0] M (xQv Q) := xM_of (by decide +kernel) (Nat.le_of_ble_eq_true rfl) (eX12_endsThought hk_l0 h)
theorem kX12_endsThought {own : String} {cc : ByteArray} {nL : Nat} {rt : Option FieldType} {d pc ix : Nat} {L : List (Nat × Value)} {st : List Value} {M : Mem} {Rt : xGt → Array Value → State → Outcome → State → Prop} {Q : Mem → Prop} {l0 : Nat} (hd : decode cc pc = .ok (.invokevirtual ix, 3)) (q : Nat) (hq : pc + 3 = q) (hk_l0 : SHk l0 = 12) (w1 : Cond.methodLink own ix yX12_endsThought ∈ xTs) (hr : 1 < d) (hst : (st.map fun v => v.category).sum ≤ 8) (h : FX12_endsThought Q l0 M) (k : ∀ (N : Mem), Q N → xX own cc nL rt d q L st N Rt) : xX own cc nL rt d pc L (.ref l0 :: st) M Rt :=
  x_callV_v (n := 0) (As := []) hd q hq hk_l0 (by decide) rfl rfl w1 kw7_206 ks7_14 kw1_14 kw7_207 (by decide +kernel) rfl hr (by decide) hst _ rfl (cX12_endsThought_ hk_l0 h) k
def FX12_state (Q : Int32 → Mem → Prop) (l0 : Nat) (l1 : Int32) (M : Mem) : Prop :=
  ∀ M1 : Mem, M1 = xu M l0 0 0 → ∀ M2 : Mem, M2 = xu M1 (l0 + 1) (1) l1 → ∀ M3 : Mem, M3 = xu M2 l0 3 0 → Q (M1 (l0 + 1) 1) M3
theorem eX12_state {Q : Int32 → Mem → Prop} {l0 : Nat} {l1 : Int32} {M : Mem} (hk_l0 : SHk l0 = 12) (h : FX12_state Q l0 l1 M) : xX RX12 cX12_state 3 (some .int) 1 0 [(0, .ref l0), (1, .int l1)] [] M (xQi Q) := by
  unfold FX12_state at h
  refine x_aload_n dX12_state_0 rfl 1 rfl ?_
  refine x_iconst dX12_state_1 kc_0 2 rfl ?_
  refine pf12_0 dX12_state_2 5 rfl hk_l0 kw5_159 (x_mem (fun M1 hM1 => ?_))
  have h := h M1 hM1
  refine x_aload_n dX12_state_5 rfl 6 rfl ?_
  refine gf12_1 dX12_state_6 9 rfl hk_l0 kw5_160 ?_
  refine x_iconst dX12_state_9 kc_1 10 rfl ?_
  refine x_iaload dX12_state_10 (ly12_1 hk_l0) (by unfold vp_in; decide) 11 rfl ?_
  refine x_istore_n dX12_state_11 (Nat.le_of_ble_eq_true rfl) [(0, .ref l0), (1, .int l1), (2, .int (M1 (l0 + 1) 1))] rfl 12 rfl ?_
  refine x_aload_n dX12_state_12 rfl 13 rfl ?_
  refine gf12_1 dX12_state_13 16 rfl hk_l0 kw5_160 ?_
  refine x_iconst dX12_state_16 kc_1 17 rfl ?_
  refine x_iload_n dX12_state_17 rfl 18 rfl ?_
  refine x_iastore dX12_state_18 (ly12_1 hk_l0) (by unfold vp_in; decide) 19 rfl (x_mem (fun M2 hM2 => ?_))
  have h := h M2 hM2
  refine x_aload_n dX12_state_19 rfl 20 rfl ?_
  refine x_iconst dX12_state_20 kc_0 21 rfl ?_
  refine pf12_3 dX12_state_21 24 rfl hk_l0 kw5_162 (x_mem (fun M3 hM3 => ?_))
  have h := h M3 hM3
  refine x_iload_n dX12_state_24 rfl 25 rfl ?_
  exact x_iret dX12_state_25 h
theorem cX12_state_ {Q : Int32 → Mem → Prop} {l0 : Nat} {l1 : Int32} {M : Mem} (hk_l0 : SHk l0 = 12) (h : FX12_state Q l0 l1 M) : xM yX12_state cX12_state 3 (some .int) 1 [.ref l0, .int l1] M (xQi Q) := xM_of (by decide +kernel) (Nat.le_of_ble_eq_true rfl) (eX12_state hk_l0 h)
theorem kX12_state {own : String} {cc : ByteArray} {nL : Nat} {rt : Option FieldType} {d pc ix : Nat} {L : List (Nat × Value)} {st : List Value} {M : Mem} {Rt : xGt → Array Value → State → Outcome → State → Prop} {Q : Int32 → Mem → Prop} {l0 : Nat} {l1 : Int32} (hd : decode cc pc = .ok (.invokevirtual ix, 3)) (q : Nat) (hq : pc + 3 = q) (hk_l0 : SHk l0 = 12) (w1 : Cond.methodLink own ix yX12_state ∈ xTs) (hr : 1 < d) (hst : (st.map fun v => v.category).sum ≤ 8) (h : FX12_state Q l0 l1 M) (k : ∀ (r : Int32) (N : Mem), Q r N → xX own cc nL rt d q L (.int r :: st) N Rt) : xX own cc nL rt d pc L (.int l1 :: .ref l0 :: st) M Rt :=
  x_callV_i (n := 1) (As := [.int l1]) hd q hq hk_l0 (by decide) rfl rfl w1 kw6_75 kw6_76 kw1_14 kw6_77 (by decide +kernel) rfl hr (by decide) hst _ rfl (cX12_state_ hk_l0 h) k
def FX12_draw (Q : Int32 → Mem → Prop) (l0 : Nat) (l1 : Int32) (M : Mem) : Prop :=
  ∀ M1 : Mem, M1 = xu M (l0 + 1) (1) ((1664525 * (M (l0 + 1) 1)) + 1013904223) → (¬ (l1 : Int32) = 0) ∧ Q (((((M1 (l0 + 1) 1) : Int32).toUInt32 >>> ((8 : Int32).toUInt32 &&& Int32.toUInt32 31)).toInt32) - ((((M1 (l0 + 1) 1) : Int32).toUInt32 >>> ((8 : Int32).toUInt32 &&& Int32.toUInt32 31)).toInt32) / l1 * l1) M1
theorem eX12_draw {Q : Int32 → Mem → Prop} {l0 : Nat} {l1 : Int32} {M : Mem} (hk_l0 : SHk l0 = 12) (h : FX12_draw Q l0 l1 M) : xX RX12 cX12_draw 2 (some .int) 1 0 [(0, .ref l0), (1, .int l1)] [] M (xQi Q) := by
  unfold FX12_draw at h
  refine x_aload_n dX12_draw_0 rfl 1 rfl ?_
  refine gf12_1 dX12_draw_1 4 rfl hk_l0 kw5_160 ?_
  refine x_iconst dX12_draw_4 kc_1 5 rfl ?_
  refine x_ldc dX12_draw_5 kw7_162 7 rfl ?_
  refine x_aload_n dX12_draw_7 rfl 8 rfl ?_
  refine gf12_1 dX12_draw_8 11 rfl hk_l0 kw5_160 ?_
  refine x_iconst dX12_draw_11 kc_1 12 rfl ?_
  refine x_iaload dX12_draw_12 (ly12_1 hk_l0) (by unfold vp_in; decide) 13 rfl ?_
  refine x_imul dX12_draw_13 14 rfl ?_
  refine x_ldc dX12_draw_14 kw7_163 16 rfl ?_
  refine x_iadd dX12_draw_16 17 rfl ?_
  refine x_iastore dX12_draw_17 (ly12_1 hk_l0) (by unfold vp_in; decide) 18 rfl (x_mem (fun M1 hM1 => ?_))
  have h := h M1 hM1
  refine x_aload_n dX12_draw_18 rfl 19 rfl ?_
  refine gf12_1 dX12_draw_19 22 rfl hk_l0 kw5_160 ?_
  refine x_iconst dX12_draw_22 kc_1 23 rfl ?_
  refine x_iaload dX12_draw_23 (ly12_1 hk_l0) (by unfold vp_in; decide) 24 rfl ?_
  refine x_bipush dX12_draw_24 kb_8 26 rfl ?_
  refine x_iushr dX12_draw_26 27 rfl ?_
  refine x_iload_n dX12_draw_27 rfl 28 rfl ?_
  obtain ⟨hne, h⟩ := h
  refine x_irem dX12_draw_28 hne 29 rfl ?_
  exact x_iret dX12_draw_29 h
theorem cX12_draw_ {Q : Int32 → Mem → Prop} {l0 : Nat} {l1 : Int32} {M : Mem} (hk_l0 : SHk l0 = 12) (h : FX12_draw Q l0 l1 M) : xM yX12_draw cX12_draw 2 (some .int) 1 [.ref l0, .int l1] M (xQi Q) := xM_of (by decide +kernel) (Nat.le_of_ble_eq_true rfl) (eX12_draw hk_l0 h)
theorem kX12_draw {own : String} {cc : ByteArray} {nL : Nat} {rt : Option FieldType} {d pc ix : Nat} {L : List (Nat × Value)} {st : List Value} {M : Mem} {Rt : xGt → Array Value → State → Outcome → State → Prop} {Q : Int32 → Mem → Prop} {l0 : Nat} {l1 : Int32} (hd : decode cc pc = .ok (.invokevirtual ix, 3)) (q : Nat) (hq : pc + 3 = q) (hk_l0 : SHk l0 = 12) (w1 : Cond.methodLink own ix yX12_draw ∈ xTs) (hr : 1 < d) (hst : (st.map fun v => v.category).sum ≤ 8) (h : FX12_draw Q l0 l1 M) (k : ∀ (r : Int32) (N : Mem), Q r N → xX own cc nL rt d q L (.int r :: st) N Rt) : xX own cc nL rt d pc L (.int l1 :: .ref l0 :: st) M Rt :=
  x_callV_i (n := 1) (As := [.int l1]) hd q hq hk_l0 (by decide) rfl rfl w1 kw7_160 ks7_8 kw1_14 kw7_161 (by decide +kernel) rfl hr (by decide) hst _ rfl (cX12_draw_ hk_l0 h) k
def FX12_isPillar (Q : Bool → Prop) (l0 : Nat) (l1 : Int32) (M : Mem) : Prop :=
  ((l1 < 0 → Q false) ∧ (¬ l1 < 0 → (((M l0 6) ≤ l1 → Q false) ∧ (¬ (M l0 6) ≤ l1 → Q true))))
theorem eX12_isPillar {Q : Bool → Prop} {l0 : Nat} {l1 : Int32} {M : Mem} (hk_l0 : SHk l0 = 12) (h : FX12_isPillar Q l0 l1 M) : xX RX12 cX12_isPillar 2 (some .boolean) 1 0 [(0, .ref l0), (1, .int l1)] [] M (xQb (xP M Q)) := by
  unfold FX12_isPillar at h
  refine x_iload_n dX12_isPillar_0 rfl 1 rfl ?_
  refine x_if_lt dX12_isPillar_1 16 4 rfl rfl (fun hc => ?_) (fun hc => ?_)
  · have h := h.1 hc
    refine x_iconst dX12_isPillar_16 kc_0 17 rfl ?_
    exact x_zret (z := false) dX12_isPillar_17 ⟨rfl, h⟩
  · have h := h.2 hc
    refine x_iload_n dX12_isPillar_4 rfl 5 rfl ?_
    refine x_aload_n dX12_isPillar_5 rfl 6 rfl ?_
    refine gf12_6 dX12_isPillar_6 9 rfl hk_l0 kw5_165 ?_
    refine x_icmp_ge dX12_isPillar_9 16 12 rfl rfl (fun hc => ?_) (fun hc => ?_)
    · have h := h.1 hc
      refine x_iconst dX12_isPillar_16 kc_0 17 rfl ?_
      exact x_zret (z := false) dX12_isPillar_17 ⟨rfl, h⟩
    · have h := h.2 hc
      refine x_iconst dX12_isPillar_12 kc_1 13 rfl ?_
      refine x_goto dX12_isPillar_13 17 rfl ?_
      exact x_zret (z := true) dX12_isPillar_17 ⟨rfl, h⟩
theorem cX12_isPillar_ {Q : Bool → Prop} {l0 : Nat} {l1 : Int32} {M : Mem} (hk_l0 : SHk l0 = 12) (h : FX12_isPillar Q l0 l1 M) : xM yX12_isPillar cX12_isPillar 2 (some .boolean) 1 [.ref l0, .int l1] M (xQb (xP M Q)) := xM_of (by decide +kernel) (Nat.le_of_ble_eq_true rfl) (eX12_isPillar hk_l0 h)
theorem kX12_isPillar {own : String} {cc : ByteArray} {nL : Nat} {rt : Option FieldType} {d pc ix : Nat} {L : List (Nat × Value)} {st : List Value} {M : Mem} {Rt : xGt → Array Value → State → Outcome → State → Prop} {Q : Bool → Prop} {l0 : Nat} {l1 : Int32} (hd : decode cc pc = .ok (.invokevirtual ix, 3)) (q : Nat) (hq : pc + 3 = q) (hk_l0 : SHk l0 = 12) (w1 : Cond.methodLink own ix yX12_isPillar ∈ xTs) (hr : 1 < d) (hst : (st.map fun v => v.category).sum ≤ 8) (h : FX12_isPillar Q l0 l1 M) (k : ∀ (r : Bool), Q r → xX own cc nL rt d q L (.int (bI r) :: st) M Rt) : xX own cc nL rt d pc L (.int l1 :: .ref l0 :: st) M Rt :=
  x_callV_b (n := 1) (As := [.int l1]) hd q hq hk_l0 (by decide) rfl rfl w1 kw7_52 ks5_14 kw1_14 kw7_53 (by decide +kernel) rfl hr (by decide) hst _ rfl (cX12_isPillar_ hk_l0 h) (fun r N hN => by obtain ⟨rfl, hN⟩ := hN; exact k r hN)
def FX12_isSaint (Q : Bool → Prop) (l0 : Nat) (l1 : Int32) (M : Mem) : Prop :=
  ((l1 < 0 → Q false) ∧ (¬ l1 < 0 → (((M l0 7) ≤ l1 → Q false) ∧ (¬ (M l0 7) ≤ l1 → Q true))))
theorem eX12_isSaint {Q : Bool → Prop} {l0 : Nat} {l1 : Int32} {M : Mem} (hk_l0 : SHk l0 = 12) (h : FX12_isSaint Q l0 l1 M) : xX RX12 cX12_isSaint 2 (some .boolean) 1 0 [(0, .ref l0), (1, .int l1)] [] M (xQb (xP M Q)) := by
  unfold FX12_isSaint at h
  refine x_iload_n dX12_isSaint_0 rfl 1 rfl ?_
  refine x_if_lt dX12_isSaint_1 16 4 rfl rfl (fun hc => ?_) (fun hc => ?_)
  · have h := h.1 hc
    refine x_iconst dX12_isSaint_16 kc_0 17 rfl ?_
    exact x_zret (z := false) dX12_isSaint_17 ⟨rfl, h⟩
  · have h := h.2 hc
    refine x_iload_n dX12_isSaint_4 rfl 5 rfl ?_
    refine x_aload_n dX12_isSaint_5 rfl 6 rfl ?_
    refine gf12_7 dX12_isSaint_6 9 rfl hk_l0 kw5_166 ?_
    refine x_icmp_ge dX12_isSaint_9 16 12 rfl rfl (fun hc => ?_) (fun hc => ?_)
    · have h := h.1 hc
      refine x_iconst dX12_isSaint_16 kc_0 17 rfl ?_
      exact x_zret (z := false) dX12_isSaint_17 ⟨rfl, h⟩
    · have h := h.2 hc
      refine x_iconst dX12_isSaint_12 kc_1 13 rfl ?_
      refine x_goto dX12_isSaint_13 17 rfl ?_
      exact x_zret (z := true) dX12_isSaint_17 ⟨rfl, h⟩
theorem cX12_isSaint_ {Q : Bool → Prop} {l0 : Nat} {l1 : Int32} {M : Mem} (hk_l0 : SHk l0 = 12) (h : FX12_isSaint Q l0 l1 M) : xM yX12_isSaint cX12_isSaint 2 (some .boolean) 1 [.ref l0, .int l1] M (xQb (xP M Q)) := xM_of (by decide +kernel) (Nat.le_of_ble_eq_true rfl) (eX12_isSaint hk_l0 h)
theorem kX12_isSaint {own : String} {cc : ByteArray} {nL : Nat} {rt : Option FieldType} {d pc ix : Nat} {L : List (Nat × Value)} {st : List Value} {M : Mem} {Rt : xGt → Array Value → State → Outcome → State → Prop} {Q : Bool → Prop} {l0 : Nat} {l1 : Int32} (hd : decode cc pc = .ok (.invokevirtual ix, 3)) (q : Nat) (hq : pc + 3 = q) (hk_l0 : SHk l0 = 12) (w1 : Cond.methodLink own ix yX12_isSaint ∈ xTs) (hr : 1 < d) (hst : (st.map fun v => v.category).sum ≤ 8) (h : FX12_isSaint Q l0 l1 M) (k : ∀ (r : Bool), Q r → xX own cc nL rt d q L (.int (bI r) :: st) M Rt) : xX own cc nL rt d pc L (.int l1 :: .ref l0 :: st) M Rt :=
  x_callV_b (n := 1) (As := [.int l1]) hd q hq hk_l0 (by decide) rfl rfl w1 kw6_124 ks3_9 kw1_14 kw6_125 (by decide +kernel) rfl hr (by decide) hst _ rfl (cX12_isSaint_ hk_l0 h) (fun r N hN => by obtain ⟨rfl, hN⟩ := hN; exact k r hN)
def FX12_sitterOf (Q : Int32 → Prop) (l0 : Nat) (l1 : Int32) (M : Mem) : Prop :=
  vp_in (73 + l1) 107 ∧ Q ((M (l0 + 1) (ix (73 + l1))) - 1)
theorem eX12_sitterOf {Q : Int32 → Prop} {l0 : Nat} {l1 : Int32} {M : Mem} (hk_l0 : SHk l0 = 12) (h : FX12_sitterOf Q l0 l1 M) : xX RX12 cX12_sitterOf 2 (some .int) 1 0 [(0, .ref l0), (1, .int l1)] [] M (xQi (xP M Q)) := by
  unfold FX12_sitterOf at h
  refine x_aload_n dX12_sitterOf_0 rfl 1 rfl ?_
  refine gf12_1 dX12_sitterOf_1 4 rfl hk_l0 kw5_160 ?_
  refine x_bipush dX12_sitterOf_4 kb_73 6 rfl ?_
  refine x_iload_n dX12_sitterOf_6 rfl 7 rfl ?_
  refine x_iadd dX12_sitterOf_7 8 rfl ?_
  obtain ⟨hin, h⟩ := h
  refine x_iaload dX12_sitterOf_8 (ly12_1 hk_l0) hin 9 rfl ?_
  refine x_iconst dX12_sitterOf_9 kc_1 10 rfl ?_
  refine x_isub dX12_sitterOf_10 11 rfl ?_
  exact x_iret dX12_sitterOf_11 ⟨rfl, h⟩
theorem cX12_sitterOf_ {Q : Int32 → Prop} {l0 : Nat} {l1 : Int32} {M : Mem} (hk_l0 : SHk l0 = 12) (h : FX12_sitterOf Q l0 l1 M) : xM yX12_sitterOf cX12_sitterOf 2 (some .int) 1 [.ref l0, .int l1] M (xQi (xP M Q)) := xM_of (by decide +kernel) (Nat.le_of_ble_eq_true rfl) (eX12_sitterOf hk_l0 h)
theorem kX12_sitterOf {own : String} {cc : ByteArray} {nL : Nat} {rt : Option FieldType} {d pc ix : Nat} {L : List (Nat × Value)} {st : List Value} {M : Mem} {Rt : xGt → Array Value → State → Outcome → State → Prop} {Q : Int32 → Prop} {l0 : Nat} {l1 : Int32} (hd : decode cc pc = .ok (.invokevirtual ix, 3)) (q : Nat) (hq : pc + 3 = q) (hk_l0 : SHk l0 = 12) (w1 : Cond.methodLink own ix yX12_sitterOf ∈ xTs) (hr : 1 < d) (hst : (st.map fun v => v.category).sum ≤ 8) (h : FX12_sitterOf Q l0 l1 M) (k : ∀ (r : Int32), Q r → xX own cc nL rt d q L (.int r :: st) M Rt) : xX own cc nL rt d pc L (.int l1 :: .ref l0 :: st) M Rt :=
  x_callV_i (n := 1) (As := [.int l1]) hd q hq hk_l0 (by decide) rfl rfl w1 kw6_92 ks3_3 kw1_14 kw6_93 (by decide +kernel) rfl hr (by decide) hst _ rfl (cX12_sitterOf_ hk_l0 h) (fun r N hN => by obtain ⟨rfl, hN⟩ := hN; exact k r hN)
def lbX12_pillarOf_2 (Q : Int32 → Prop) (l0 : Nat) (l1 : Int32) (M : Mem) (B2 : Int32 → Prop) (l2 : Int32) : Prop :=
  (((M l0 6) ≤ l2 → Q (-1)) ∧ (¬ (M l0 6) ≤ l2 → FX12_sitterOf (fun (r1 : Int32) => ((¬ r1 = l1 → B2 (l2 + 1)) ∧ (r1 = l1 → Q l2))) l0 l2 M))
def NX12_pillarOf_2 (Q : Int32 → Prop) (l0 : Nat) (l1 : Int32) (l2 : Int32) (M : Mem) : Prop := xlp (fun (B : Int32 → Prop) a => lbX12_pillarOf_2 Q l0 l1 M (fun l2 => B (l2)) a) (l2)
theorem nX12_pillarOf_2 {Q : Int32 → Prop} {l0 : Nat} {l1 : Int32} {l2 : Int32} {M : Mem} (hk_l0 : SHk l0 = 12) (h : NX12_pillarOf_2 Q l0 l1 l2 M) : xX RX12 cX12_pillarOf 3 (some .int) 2 2 [(0, .ref l0), (1, .int l1), (2, .int l2)] [] M (xQi (xP M Q)) := by
  obtain ⟨n, h⟩ := h
  have hB2 : ∀ (n : Nat) (l2 : Int32), xlpn (fun (B : Int32 → Prop) a => lbX12_pillarOf_2 Q l0 l1 M (fun l2 => B (l2)) a) n (l2) → xX RX12 cX12_pillarOf 3 (some .int) 2 2 [(0, .ref l0), (1, .int l1), (2, .int l2)] [] M (xQi (xP M Q)) := by
    intro n
    induction n with
    | zero => intro l2 h; exact False.elim h
    | succ n ih =>
      intro l2 h
      have hB2 := ih
      have h : lbX12_pillarOf_2 Q l0 l1 M (fun l2 => xlpn (fun (B : Int32 → Prop) a => lbX12_pillarOf_2 Q l0 l1 M (fun l2 => B (l2)) a) n (l2)) l2 := h
      unfold lbX12_pillarOf_2 at h
      refine x_iload_n dX12_pillarOf_2 rfl 3 rfl ?_
      refine x_aload_n dX12_pillarOf_3 rfl 4 rfl ?_
      refine gf12_6 dX12_pillarOf_4 7 rfl hk_l0 kw5_165 ?_
      refine x_icmp_ge dX12_pillarOf_7 27 10 rfl rfl (fun hc => ?_) (fun hc => ?_)
      · have h := h.1 hc
        refine x_iconst dX12_pillarOf_27 kc_m1 28 rfl ?_
        exact x_iret dX12_pillarOf_28 ⟨rfl, h⟩
      · have h := h.2 hc
        refine x_aload_n dX12_pillarOf_10 rfl 11 rfl ?_
        refine x_iload_n dX12_pillarOf_11 rfl 12 rfl ?_
        refine kX12_sitterOf dX12_pillarOf_12 15 rfl hk_l0 kw6_90 (Nat.le_of_ble_eq_true rfl) (Nat.le_of_ble_eq_true rfl) h (fun r1 h => ?_)
        refine x_iload_n dX12_pillarOf_15 rfl 16 rfl ?_
        refine x_icmp_ne dX12_pillarOf_16 21 19 rfl rfl (fun hc => ?_) (fun hc => ?_)
        · have h := h.1 hc
          refine x_iinc dX12_pillarOf_21 rfl (congrArg (l2 + ·) kc_1) (Nat.le_of_ble_eq_true rfl) [(0, .ref l0), (1, .int l1), (2, .int (l2 + 1))] rfl 24 rfl ?_
          refine x_goto dX12_pillarOf_24 2 rfl ?_
          exact hB2 _ h
        · have h := h.2 hc
          refine x_iload_n dX12_pillarOf_19 rfl 20 rfl ?_
          exact x_iret dX12_pillarOf_20 ⟨rfl, h⟩
  exact hB2 n l2 h
def FX12_pillarOf (Q : Int32 → Prop) (l0 : Nat) (l1 : Int32) (M : Mem) : Prop :=
  NX12_pillarOf_2 Q l0 l1 0 M
theorem eX12_pillarOf {Q : Int32 → Prop} {l0 : Nat} {l1 : Int32} {M : Mem} (hk_l0 : SHk l0 = 12) (h : FX12_pillarOf Q l0 l1 M) : xX RX12 cX12_pillarOf 3 (some .int) 2 0 [(0, .ref l0), (1, .int l1)] [] M (xQi (xP M Q)) := by
  unfold FX12_pillarOf at h
  refine x_iconst dX12_pillarOf_0 kc_0 1 rfl ?_
  refine x_istore_n dX12_pillarOf_1 (Nat.le_of_ble_eq_true rfl) [(0, .ref l0), (1, .int l1), (2, .int 0)] rfl 2 rfl ?_
  exact nX12_pillarOf_2 hk_l0 h
theorem cX12_pillarOf_ {Q : Int32 → Prop} {l0 : Nat} {l1 : Int32} {M : Mem} (hk_l0 : SHk l0 = 12) (h : FX12_pillarOf Q l0 l1 M) : xM yX12_pillarOf cX12_pillarOf 3 (some .int) 2 [.ref l0, .int l1] M (xQi (xP M Q)) := xM_of (by decide +kernel) (Nat.le_of_ble_eq_true rfl) (eX12_pillarOf hk_l0 h)
theorem kX12_pillarOf {own : String} {cc : ByteArray} {nL : Nat} {rt : Option FieldType} {d pc ix : Nat} {L : List (Nat × Value)} {st : List Value} {M : Mem} {Rt : xGt → Array Value → State → Outcome → State → Prop} {Q : Int32 → Prop} {l0 : Nat} {l1 : Int32} (hd : decode cc pc = .ok (.invokevirtual ix, 3)) (q : Nat) (hq : pc + 3 = q) (hk_l0 : SHk l0 = 12) (w1 : Cond.methodLink own ix yX12_pillarOf ∈ xTs) (hr : 2 < d) (hst : (st.map fun v => v.category).sum ≤ 8) (h : FX12_pillarOf Q l0 l1 M) (k : ∀ (r : Int32), Q r → xX own cc nL rt d q L (.int r :: st) M Rt) : xX own cc nL rt d pc L (.int l1 :: .ref l0 :: st) M Rt :=
  x_callV_i (n := 1) (As := [.int l1]) hd q hq hk_l0 (by decide) rfl rfl w1 kw7_48 ks5_13 kw1_14 kw7_49 (by decide +kernel) rfl hr (by decide) hst _ rfl (cX12_pillarOf_ hk_l0 h) (fun r N hN => by obtain ⟨rfl, hN⟩ := hN; exact k r hN)
def lbX12_placeOf_2 (Q : Int32 → Prop) (l0 : Nat) (l1 : Int32) (M : Mem) (B2 : Int32 → Prop) (l2 : Int32) : Prop :=
  (((M (l0 + 1) 6) ≤ l2 → Q (-1)) ∧ (¬ (M (l0 + 1) 6) ≤ l2 → vp_in (93 + l2) 107 ∧ ((¬ (M (l0 + 1) (ix (93 + l2))) = l1 → B2 (l2 + 1)) ∧ ((M (l0 + 1) (ix (93 + l2))) = l1 → Q l2))))
def NX12_placeOf_2 (Q : Int32 → Prop) (l0 : Nat) (l1 : Int32) (l2 : Int32) (M : Mem) : Prop := xlp (fun (B : Int32 → Prop) a => lbX12_placeOf_2 Q l0 l1 M (fun l2 => B (l2)) a) (l2)
theorem nX12_placeOf_2 {Q : Int32 → Prop} {l0 : Nat} {l1 : Int32} {l2 : Int32} {M : Mem} (hk_l0 : SHk l0 = 12) (h : NX12_placeOf_2 Q l0 l1 l2 M) : xX RX12 cX12_placeOf 3 (some .int) 1 2 [(0, .ref l0), (1, .int l1), (2, .int l2)] [] M (xQi (xP M Q)) := by
  obtain ⟨n, h⟩ := h
  have hB2 : ∀ (n : Nat) (l2 : Int32), xlpn (fun (B : Int32 → Prop) a => lbX12_placeOf_2 Q l0 l1 M (fun l2 => B (l2)) a) n (l2) → xX RX12 cX12_placeOf 3 (some .int) 1 2 [(0, .ref l0), (1, .int l1), (2, .int l2)] [] M (xQi (xP M Q)) := by
    intro n
    induction n with
    | zero => intro l2 h; exact False.elim h
    | succ n ih =>
      intro l2 h
      have hB2 := ih
      have h : lbX12_placeOf_2 Q l0 l1 M (fun l2 => xlpn (fun (B : Int32 → Prop) a => lbX12_placeOf_2 Q l0 l1 M (fun l2 => B (l2)) a) n (l2)) l2 := h
      unfold lbX12_placeOf_2 at h
      refine x_iload_n dX12_placeOf_2 rfl 3 rfl ?_
      refine x_aload_n dX12_placeOf_3 rfl 4 rfl ?_
      refine gf12_1 dX12_placeOf_4 7 rfl hk_l0 kw5_160 ?_
      refine x_bipush dX12_placeOf_7 kb_6 9 rfl ?_
      refine x_iaload dX12_placeOf_9 (ly12_1 hk_l0) (by unfold vp_in; decide) 10 rfl ?_
      refine x_icmp_ge dX12_placeOf_10 34 13 rfl rfl (fun hc => ?_) (fun hc => ?_)
      · have h := h.1 hc
        refine x_iconst dX12_placeOf_34 kc_m1 35 rfl ?_
        exact x_iret dX12_placeOf_35 ⟨rfl, h⟩
      · have h := h.2 hc
        refine x_aload_n dX12_placeOf_13 rfl 14 rfl ?_
        refine gf12_1 dX12_placeOf_14 17 rfl hk_l0 kw5_160 ?_
        refine x_bipush dX12_placeOf_17 kb_93 19 rfl ?_
        refine x_iload_n dX12_placeOf_19 rfl 20 rfl ?_
        refine x_iadd dX12_placeOf_20 21 rfl ?_
        obtain ⟨hin, h⟩ := h
        refine x_iaload dX12_placeOf_21 (ly12_1 hk_l0) hin 22 rfl ?_
        refine x_iload_n dX12_placeOf_22 rfl 23 rfl ?_
        refine x_icmp_ne dX12_placeOf_23 28 26 rfl rfl (fun hc => ?_) (fun hc => ?_)
        · have h := h.1 hc
          refine x_iinc dX12_placeOf_28 rfl (congrArg (l2 + ·) kc_1) (Nat.le_of_ble_eq_true rfl) [(0, .ref l0), (1, .int l1), (2, .int (l2 + 1))] rfl 31 rfl ?_
          refine x_goto dX12_placeOf_31 2 rfl ?_
          exact hB2 _ h
        · have h := h.2 hc
          refine x_iload_n dX12_placeOf_26 rfl 27 rfl ?_
          exact x_iret dX12_placeOf_27 ⟨rfl, h⟩
  exact hB2 n l2 h
def FX12_placeOf (Q : Int32 → Prop) (l0 : Nat) (l1 : Int32) (M : Mem) : Prop :=
  NX12_placeOf_2 Q l0 l1 0 M
theorem eX12_placeOf {Q : Int32 → Prop} {l0 : Nat} {l1 : Int32} {M : Mem} (hk_l0 : SHk l0 = 12) (h : FX12_placeOf Q l0 l1 M) : xX RX12 cX12_placeOf 3 (some .int) 1 0 [(0, .ref l0), (1, .int l1)] [] M (xQi (xP M Q)) := by
  unfold FX12_placeOf at h
  refine x_iconst dX12_placeOf_0 kc_0 1 rfl ?_
  refine x_istore_n dX12_placeOf_1 (Nat.le_of_ble_eq_true rfl) [(0, .ref l0), (1, .int l1), (2, .int 0)] rfl 2 rfl ?_
  exact nX12_placeOf_2 hk_l0 h
theorem cX12_placeOf_ {Q : Int32 → Prop} {l0 : Nat} {l1 : Int32} {M : Mem} (hk_l0 : SHk l0 = 12) (h : FX12_placeOf Q l0 l1 M) : xM yX12_placeOf cX12_placeOf 3 (some .int) 1 [.ref l0, .int l1] M (xQi (xP M Q)) := xM_of (by decide +kernel) (Nat.le_of_ble_eq_true rfl) (eX12_placeOf hk_l0 h)
theorem kX12_placeOf {own : String} {cc : ByteArray} {nL : Nat} {rt : Option FieldType} {d pc ix : Nat} {L : List (Nat × Value)} {st : List Value} {M : Mem} {Rt : xGt → Array Value → State → Outcome → State → Prop} {Q : Int32 → Prop} {l0 : Nat} {l1 : Int32} (hd : decode cc pc = .ok (.invokevirtual ix, 3)) (q : Nat) (hq : pc + 3 = q) (hk_l0 : SHk l0 = 12) (w1 : Cond.methodLink own ix yX12_placeOf ∈ xTs) (hr : 1 < d) (hst : (st.map fun v => v.category).sum ≤ 8) (h : FX12_placeOf Q l0 l1 M) (k : ∀ (r : Int32), Q r → xX own cc nL rt d q L (.int r :: st) M Rt) : xX own cc nL rt d pc L (.int l1 :: .ref l0 :: st) M Rt :=
  x_callV_i (n := 1) (As := [.int l1]) hd q hq hk_l0 (by decide) rfl rfl w1 kw7_170 ks7_10 kw1_14 kw7_171 (by decide +kernel) rfl hr (by decide) hst _ rfl (cX12_placeOf_ hk_l0 h) (fun r N hN => by obtain ⟨rfl, hN⟩ := hN; exact k r hN)
def lbX12_highest_7 (Q : Int32 → Prop) (l0 : Nat) (M : Mem) (B7 : Int32 → Prop) (l1 : Int32) : Prop :=
  ((l1 < 0 → Q (-1)) ∧ (¬ l1 < 0 → FX12_sitterOf (fun (r1 : Int32) => ((r1 = (-1) → B7 (l1 + (-1))) ∧ (¬ r1 = (-1) → Q l1))) l0 l1 M))
def NX12_highest_7 (Q : Int32 → Prop) (l0 : Nat) (l1 : Int32) (M : Mem) : Prop := xlp (fun (B : Int32 → Prop) a => lbX12_highest_7 Q l0 M (fun l1 => B (l1)) a) (l1)
theorem nX12_highest_7 {Q : Int32 → Prop} {l0 : Nat} {l1 : Int32} {M : Mem} (hk_l0 : SHk l0 = 12) (h : NX12_highest_7 Q l0 l1 M) : xX RX12 cX12_highest 2 (some .int) 2 7 [(0, .ref l0), (1, .int l1)] [] M (xQi (xP M Q)) := by
  obtain ⟨n, h⟩ := h
  have hB7 : ∀ (n : Nat) (l1 : Int32), xlpn (fun (B : Int32 → Prop) a => lbX12_highest_7 Q l0 M (fun l1 => B (l1)) a) n (l1) → xX RX12 cX12_highest 2 (some .int) 2 7 [(0, .ref l0), (1, .int l1)] [] M (xQi (xP M Q)) := by
    intro n
    induction n with
    | zero => intro l1 h; exact False.elim h
    | succ n ih =>
      intro l1 h
      have hB7 := ih
      have h : lbX12_highest_7 Q l0 M (fun l1 => xlpn (fun (B : Int32 → Prop) a => lbX12_highest_7 Q l0 M (fun l1 => B (l1)) a) n (l1)) l1 := h
      unfold lbX12_highest_7 at h
      refine x_iload_n dX12_highest_7 rfl 8 rfl ?_
      refine x_if_lt dX12_highest_8 28 11 rfl rfl (fun hc => ?_) (fun hc => ?_)
      · have h := h.1 hc
        refine x_iconst dX12_highest_28 kc_m1 29 rfl ?_
        exact x_iret dX12_highest_29 ⟨rfl, h⟩
      · have h := h.2 hc
        refine x_aload_n dX12_highest_11 rfl 12 rfl ?_
        refine x_iload_n dX12_highest_12 rfl 13 rfl ?_
        refine kX12_sitterOf dX12_highest_13 16 rfl hk_l0 kw6_90 (Nat.le_of_ble_eq_true rfl) (Nat.le_of_ble_eq_true rfl) h (fun r1 h => ?_)
        refine x_iconst dX12_highest_16 kc_m1 17 rfl ?_
        refine x_icmp_eq dX12_highest_17 22 20 rfl rfl (fun hc => ?_) (fun hc => ?_)
        · have h := h.1 hc
          refine x_iinc dX12_highest_22 rfl (congrArg (l1 + ·) kc_m1) (Nat.le_of_ble_eq_true rfl) [(0, .ref l0), (1, .int (l1 + (-1)))] rfl 25 rfl ?_
          refine x_goto dX12_highest_25 7 rfl ?_
          exact hB7 _ h
        · have h := h.2 hc
          refine x_iload_n dX12_highest_20 rfl 21 rfl ?_
          exact x_iret dX12_highest_21 ⟨rfl, h⟩
  exact hB7 n l1 h
def FX12_highest (Q : Int32 → Prop) (l0 : Nat) (M : Mem) : Prop :=
  NX12_highest_7 Q l0 ((M l0 6) - 1) M
theorem eX12_highest {Q : Int32 → Prop} {l0 : Nat} {M : Mem} (hk_l0 : SHk l0 = 12) (h : FX12_highest Q l0 M) : xX RX12 cX12_highest 2 (some .int) 2 0 [(0, .ref l0)] [] M (xQi (xP M Q)) := by
  unfold FX12_highest at h
  refine x_aload_n dX12_highest_0 rfl 1 rfl ?_
  refine gf12_6 dX12_highest_1 4 rfl hk_l0 kw5_165 ?_
  refine x_iconst dX12_highest_4 kc_1 5 rfl ?_
  refine x_isub dX12_highest_5 6 rfl ?_
  refine x_istore_n dX12_highest_6 (Nat.le_of_ble_eq_true rfl) [(0, .ref l0), (1, .int ((M l0 6) - 1))] rfl 7 rfl ?_
  exact nX12_highest_7 hk_l0 h
theorem cX12_highest_ {Q : Int32 → Prop} {l0 : Nat} {M : Mem} (hk_l0 : SHk l0 = 12) (h : FX12_highest Q l0 M) : xM yX12_highest cX12_highest 2 (some .int) 2 [.ref l0] M (xQi (xP M Q)) := xM_of (by decide +kernel) (Nat.le_of_ble_eq_true rfl) (eX12_highest hk_l0 h)
theorem kX12_highest {own : String} {cc : ByteArray} {nL : Nat} {rt : Option FieldType} {d pc ix : Nat} {L : List (Nat × Value)} {st : List Value} {M : Mem} {Rt : xGt → Array Value → State → Outcome → State → Prop} {Q : Int32 → Prop} {l0 : Nat} (hd : decode cc pc = .ok (.invokevirtual ix, 3)) (q : Nat) (hq : pc + 3 = q) (hk_l0 : SHk l0 = 12) (w1 : Cond.methodLink own ix yX12_highest ∈ xTs) (hr : 2 < d) (hst : (st.map fun v => v.category).sum ≤ 8) (h : FX12_highest Q l0 M) (k : ∀ (r : Int32), Q r → xX own cc nL rt d q L (.int r :: st) M Rt) : xX own cc nL rt d pc L (.ref l0 :: st) M Rt :=
  x_callV_i (n := 0) (As := []) hd q hq hk_l0 (by decide) rfl rfl w1 kw7_44 ks5_12 kw1_14 kw7_45 (by decide +kernel) rfl hr (by decide) hst _ rfl (cX12_highest_ hk_l0 h) (fun r N hN => by obtain ⟨rfl, hN⟩ := hN; exact k r hN)
def lbX12_nextBelow_4 (Q : Int32 → Prop) (l0 : Nat) (M : Mem) (B4 : Int32 → Prop) (l2 : Int32) : Prop :=
  ((l2 < 0 → Q (-1)) ∧ (¬ l2 < 0 → FX12_sitterOf (fun (r1 : Int32) => ((r1 = (-1) → B4 (l2 + (-1))) ∧ (¬ r1 = (-1) → Q l2))) l0 l2 M))
def NX12_nextBelow_4 (Q : Int32 → Prop) (l0 : Nat) (l2 : Int32) (M : Mem) : Prop := xlp (fun (B : Int32 → Prop) a => lbX12_nextBelow_4 Q l0 M (fun l2 => B (l2)) a) (l2)
theorem nX12_nextBelow_4 {Q : Int32 → Prop} {l0 : Nat} {l2 : Int32} {M : Mem} (hk_l0 : SHk l0 = 12) (h : NX12_nextBelow_4 Q l0 l2 M) : xX RX12 cX12_nextBelow 3 (some .int) 2 4 [(0, .ref l0), (2, .int l2)] [] M (xQi (xP M Q)) := by
  obtain ⟨n, h⟩ := h
  have hB4 : ∀ (n : Nat) (l2 : Int32), xlpn (fun (B : Int32 → Prop) a => lbX12_nextBelow_4 Q l0 M (fun l2 => B (l2)) a) n (l2) → xX RX12 cX12_nextBelow 3 (some .int) 2 4 [(0, .ref l0), (2, .int l2)] [] M (xQi (xP M Q)) := by
    intro n
    induction n with
    | zero => intro l2 h; exact False.elim h
    | succ n ih =>
      intro l2 h
      have hB4 := ih
      have h : lbX12_nextBelow_4 Q l0 M (fun l2 => xlpn (fun (B : Int32 → Prop) a => lbX12_nextBelow_4 Q l0 M (fun l2 => B (l2)) a) n (l2)) l2 := h
      unfold lbX12_nextBelow_4 at h
      refine x_iload_n dX12_nextBelow_4 rfl 5 rfl ?_
      refine x_if_lt dX12_nextBelow_5 25 8 rfl rfl (fun hc => ?_) (fun hc => ?_)
      · have h := h.1 hc
        refine x_iconst dX12_nextBelow_25 kc_m1 26 rfl ?_
        exact x_iret dX12_nextBelow_26 ⟨rfl, h⟩
      · have h := h.2 hc
        refine x_aload_n dX12_nextBelow_8 rfl 9 rfl ?_
        refine x_iload_n dX12_nextBelow_9 rfl 10 rfl ?_
        refine kX12_sitterOf dX12_nextBelow_10 13 rfl hk_l0 kw6_90 (Nat.le_of_ble_eq_true rfl) (Nat.le_of_ble_eq_true rfl) h (fun r1 h => ?_)
        refine x_iconst dX12_nextBelow_13 kc_m1 14 rfl ?_
        refine x_icmp_eq dX12_nextBelow_14 19 17 rfl rfl (fun hc => ?_) (fun hc => ?_)
        · have h := h.1 hc
          refine x_iinc dX12_nextBelow_19 rfl (congrArg (l2 + ·) kc_m1) (Nat.le_of_ble_eq_true rfl) [(0, .ref l0), (2, .int (l2 + (-1)))] rfl 22 rfl ?_
          refine x_goto dX12_nextBelow_22 4 rfl ?_
          exact hB4 _ h
        · have h := h.2 hc
          refine x_iload_n dX12_nextBelow_17 rfl 18 rfl ?_
          exact x_iret dX12_nextBelow_18 ⟨rfl, h⟩
  exact hB4 n l2 h
def FX12_nextBelow (Q : Int32 → Prop) (l0 : Nat) (l1 : Int32) (M : Mem) : Prop :=
  NX12_nextBelow_4 Q l0 (l1 - 1) M
theorem eX12_nextBelow {Q : Int32 → Prop} {l0 : Nat} {l1 : Int32} {M : Mem} (hk_l0 : SHk l0 = 12) (h : FX12_nextBelow Q l0 l1 M) : xX RX12 cX12_nextBelow 3 (some .int) 2 0 [(0, .ref l0), (1, .int l1)] [] M (xQi (xP M Q)) := by
  unfold FX12_nextBelow at h
  refine x_iload_n dX12_nextBelow_0 rfl 1 rfl ?_
  refine x_iconst dX12_nextBelow_1 kc_1 2 rfl ?_
  refine x_isub dX12_nextBelow_2 3 rfl ?_
  refine x_istore_n dX12_nextBelow_3 (Nat.le_of_ble_eq_true rfl) [(0, .ref l0), (1, .int l1), (2, .int (l1 - 1))] rfl 4 rfl ?_
  refine x_weak [(0, .ref l0), (2, .int (l1 - 1))] [0, 2] rfl ?_
  exact nX12_nextBelow_4 hk_l0 h
theorem cX12_nextBelow_ {Q : Int32 → Prop} {l0 : Nat} {l1 : Int32} {M : Mem} (hk_l0 : SHk l0 = 12) (h : FX12_nextBelow Q l0 l1 M) : xM yX12_nextBelow cX12_nextBelow 3 (some .int) 2 [.ref l0, .int l1] M (xQi (xP M Q)) := xM_of (by decide +kernel) (Nat.le_of_ble_eq_true rfl) (eX12_nextBelow hk_l0 h)
theorem kX12_nextBelow {own : String} {cc : ByteArray} {nL : Nat} {rt : Option FieldType} {d pc ix : Nat} {L : List (Nat × Value)} {st : List Value} {M : Mem} {Rt : xGt → Array Value → State → Outcome → State → Prop} {Q : Int32 → Prop} {l0 : Nat} {l1 : Int32} (hd : decode cc pc = .ok (.invokevirtual ix, 3)) (q : Nat) (hq : pc + 3 = q) (hk_l0 : SHk l0 = 12) (w1 : Cond.methodLink own ix yX12_nextBelow ∈ xTs) (hr : 2 < d) (hst : (st.map fun v => v.category).sum ≤ 8) (h : FX12_nextBelow Q l0 l1 M) (k : ∀ (r : Int32), Q r → xX own cc nL rt d q L (.int r :: st) M Rt) : xX own cc nL rt d pc L (.int l1 :: .ref l0 :: st) M Rt :=
  x_callV_i (n := 1) (As := [.int l1]) hd q hq hk_l0 (by decide) rfl rfl w1 kw6_96 ks3_4 kw1_14 kw6_97 (by decide +kernel) rfl hr (by decide) hst _ rfl (cX12_nextBelow_ hk_l0 h) (fun r N hN => by obtain ⟨rfl, hN⟩ := hN; exact k r hN)
def lbX12_nextAbove_4 (Q : Int32 → Prop) (l0 : Nat) (M : Mem) (B4 : Int32 → Prop) (l2 : Int32) : Prop :=
  (((M l0 6) ≤ l2 → Q (-1)) ∧ (¬ (M l0 6) ≤ l2 → FX12_sitterOf (fun (r1 : Int32) => ((r1 = (-1) → B4 (l2 + 1)) ∧ (¬ r1 = (-1) → Q l2))) l0 l2 M))
def NX12_nextAbove_4 (Q : Int32 → Prop) (l0 : Nat) (l2 : Int32) (M : Mem) : Prop := xlp (fun (B : Int32 → Prop) a => lbX12_nextAbove_4 Q l0 M (fun l2 => B (l2)) a) (l2)
theorem nX12_nextAbove_4 {Q : Int32 → Prop} {l0 : Nat} {l2 : Int32} {M : Mem} (hk_l0 : SHk l0 = 12) (h : NX12_nextAbove_4 Q l0 l2 M) : xX RX12 cX12_nextAbove 3 (some .int) 2 4 [(0, .ref l0), (2, .int l2)] [] M (xQi (xP M Q)) := by
  obtain ⟨n, h⟩ := h
  have hB4 : ∀ (n : Nat) (l2 : Int32), xlpn (fun (B : Int32 → Prop) a => lbX12_nextAbove_4 Q l0 M (fun l2 => B (l2)) a) n (l2) → xX RX12 cX12_nextAbove 3 (some .int) 2 4 [(0, .ref l0), (2, .int l2)] [] M (xQi (xP M Q)) := by
    intro n
    induction n with
    | zero => intro l2 h; exact False.elim h
    | succ n ih =>
      intro l2 h
      have hB4 := ih
      have h : lbX12_nextAbove_4 Q l0 M (fun l2 => xlpn (fun (B : Int32 → Prop) a => lbX12_nextAbove_4 Q l0 M (fun l2 => B (l2)) a) n (l2)) l2 := h
      unfold lbX12_nextAbove_4 at h
      refine x_iload_n dX12_nextAbove_4 rfl 5 rfl ?_
      refine x_aload_n dX12_nextAbove_5 rfl 6 rfl ?_
      refine gf12_6 dX12_nextAbove_6 9 rfl hk_l0 kw5_165 ?_
      refine x_icmp_ge dX12_nextAbove_9 29 12 rfl rfl (fun hc => ?_) (fun hc => ?_)
      · have h := h.1 hc
        refine x_iconst dX12_nextAbove_29 kc_m1 30 rfl ?_
        exact x_iret dX12_nextAbove_30 ⟨rfl, h⟩
      · have h := h.2 hc
        refine x_aload_n dX12_nextAbove_12 rfl 13 rfl ?_
        refine x_iload_n dX12_nextAbove_13 rfl 14 rfl ?_
        refine kX12_sitterOf dX12_nextAbove_14 17 rfl hk_l0 kw6_90 (Nat.le_of_ble_eq_true rfl) (Nat.le_of_ble_eq_true rfl) h (fun r1 h => ?_)
        refine x_iconst dX12_nextAbove_17 kc_m1 18 rfl ?_
        refine x_icmp_eq dX12_nextAbove_18 23 21 rfl rfl (fun hc => ?_) (fun hc => ?_)
        · have h := h.1 hc
          refine x_iinc dX12_nextAbove_23 rfl (congrArg (l2 + ·) kc_1) (Nat.le_of_ble_eq_true rfl) [(0, .ref l0), (2, .int (l2 + 1))] rfl 26 rfl ?_
          refine x_goto dX12_nextAbove_26 4 rfl ?_
          exact hB4 _ h
        · have h := h.2 hc
          refine x_iload_n dX12_nextAbove_21 rfl 22 rfl ?_
          exact x_iret dX12_nextAbove_22 ⟨rfl, h⟩
  exact hB4 n l2 h
def FX12_nextAbove (Q : Int32 → Prop) (l0 : Nat) (l1 : Int32) (M : Mem) : Prop :=
  NX12_nextAbove_4 Q l0 (l1 + 1) M
theorem eX12_nextAbove {Q : Int32 → Prop} {l0 : Nat} {l1 : Int32} {M : Mem} (hk_l0 : SHk l0 = 12) (h : FX12_nextAbove Q l0 l1 M) : xX RX12 cX12_nextAbove 3 (some .int) 2 0 [(0, .ref l0), (1, .int l1)] [] M (xQi (xP M Q)) := by
  unfold FX12_nextAbove at h
  refine x_iload_n dX12_nextAbove_0 rfl 1 rfl ?_
  refine x_iconst dX12_nextAbove_1 kc_1 2 rfl ?_
  refine x_iadd dX12_nextAbove_2 3 rfl ?_
  refine x_istore_n dX12_nextAbove_3 (Nat.le_of_ble_eq_true rfl) [(0, .ref l0), (1, .int l1), (2, .int (l1 + 1))] rfl 4 rfl ?_
  refine x_weak [(0, .ref l0), (2, .int (l1 + 1))] [0, 2] rfl ?_
  exact nX12_nextAbove_4 hk_l0 h
theorem cX12_nextAbove_ {Q : Int32 → Prop} {l0 : Nat} {l1 : Int32} {M : Mem} (hk_l0 : SHk l0 = 12) (h : FX12_nextAbove Q l0 l1 M) : xM yX12_nextAbove cX12_nextAbove 3 (some .int) 2 [.ref l0, .int l1] M (xQi (xP M Q)) := xM_of (by decide +kernel) (Nat.le_of_ble_eq_true rfl) (eX12_nextAbove hk_l0 h)
theorem kX12_nextAbove {own : String} {cc : ByteArray} {nL : Nat} {rt : Option FieldType} {d pc ix : Nat} {L : List (Nat × Value)} {st : List Value} {M : Mem} {Rt : xGt → Array Value → State → Outcome → State → Prop} {Q : Int32 → Prop} {l0 : Nat} {l1 : Int32} (hd : decode cc pc = .ok (.invokevirtual ix, 3)) (q : Nat) (hq : pc + 3 = q) (hk_l0 : SHk l0 = 12) (w1 : Cond.methodLink own ix yX12_nextAbove ∈ xTs) (hr : 2 < d) (hst : (st.map fun v => v.category).sum ≤ 8) (h : FX12_nextAbove Q l0 l1 M) (k : ∀ (r : Int32), Q r → xX own cc nL rt d q L (.int r :: st) M Rt) : xX own cc nL rt d pc L (.int l1 :: .ref l0 :: st) M Rt :=
  x_callV_i (n := 1) (As := [.int l1]) hd q hq hk_l0 (by decide) rfl rfl w1 kw7_108 ks6_11 kw1_14 kw7_109 (by decide +kernel) rfl hr (by decide) hst _ rfl (cX12_nextAbove_ hk_l0 h) (fun r N hN => by obtain ⟨rfl, hN⟩ := hN; exact k r hN)
def FX12_notes (Q : Mem → Prop) (l0 : Nat) (l1 : Int32) (l2 : Int32) (l3 : Int32) (M : Mem) : Prop :=
  ((¬ (M l0 5) = 0 → Q M) ∧ ((M l0 5) = 0 → ((¬ (M (l0 + 1) 2) = 150 → vp_in (4 * (M (l0 + 1) 2)) 600 ∧ ∀ M1 : Mem, M1 = xu M (l0 + 5) (ix (4 * (M (l0 + 1) 2))) (M (l0 + 1) 0) → vp_in ((4 * (M (l0 + 1) 2)) + 1) 600 ∧ ∀ M2 : Mem, M2 = xu M1 (l0 + 5) (ix ((4 * (M (l0 + 1) 2)) + 1)) l1 → vp_in ((4 * (M (l0 + 1) 2)) + 2) 600 ∧ ∀ M3 : Mem, M3 = xu M2 (l0 + 5) (ix ((4 * (M (l0 + 1) 2)) + 2)) l2 → vp_in ((4 * (M (l0 + 1) 2)) + 3) 600 ∧ ∀ M4 : Mem, M4 = xu M3 (l0 + 5) (ix ((4 * (M (l0 + 1) 2)) + 3)) l3 → ∀ M5 : Mem, M5 = xu M4 (l0 + 1) (2) ((M4 (l0 + 1) 2) + 1) → Q M5) ∧ ((M (l0 + 1) 2) = 150 → Q M))))
theorem eX12_notes {Q : Mem → Prop} {l0 : Nat} {l1 : Int32} {l2 : Int32} {l3 : Int32} {M : Mem} (hk_l0 : SHk l0 = 12) (h : FX12_notes Q l0 l1 l2 l3 M) : xX RX12 cX12_notes 5 none 1 0 [(0, .ref l0), (1, .int l1), (2, .int l2), (3, .int l3)] [] M (xQv Q) := by
  unfold FX12_notes at h
  refine x_aload_n dX12_notes_0 rfl 1 rfl ?_
  refine gf12_5 dX12_notes_1 4 rfl hk_l0 kw5_164 ?_
  refine x_if_ne dX12_notes_4 19 7 rfl rfl (fun hc => ?_) (fun hc => ?_)
  · have h := h.1 hc
    exact x_vret dX12_notes_19 h
  · have h := h.2 hc
    refine x_aload_n dX12_notes_7 rfl 8 rfl ?_
    refine gf12_1 dX12_notes_8 11 rfl hk_l0 kw5_160 ?_
    refine x_iconst dX12_notes_11 kc_2 12 rfl ?_
    refine x_iaload dX12_notes_12 (ly12_1 hk_l0) (by unfold vp_in; decide) 13 rfl ?_
    refine x_sipush dX12_notes_13 kh_150 16 rfl ?_
    refine x_icmp_ne dX12_notes_16 20 19 rfl rfl (fun hc => ?_) (fun hc => ?_)
    · have h := h.1 hc
      refine x_iconst dX12_notes_20 kc_4 21 rfl ?_
      refine x_aload_n dX12_notes_21 rfl 22 rfl ?_
      refine gf12_1 dX12_notes_22 25 rfl hk_l0 kw5_160 ?_
      refine x_iconst dX12_notes_25 kc_2 26 rfl ?_
      refine x_iaload dX12_notes_26 (ly12_1 hk_l0) (by unfold vp_in; decide) 27 rfl ?_
      refine x_imul dX12_notes_27 28 rfl ?_
      refine x_istore dX12_notes_28 (Nat.le_of_ble_eq_true rfl) [(0, .ref l0), (1, .int l1), (2, .int l2), (3, .int l3), (4, .int (4 * (M (l0 + 1) 2)))] rfl 30 rfl ?_
      refine x_aload_n dX12_notes_30 rfl 31 rfl ?_
      refine gf12_9 dX12_notes_31 34 rfl hk_l0 kw5_168 ?_
      refine x_iload dX12_notes_34 rfl 36 rfl ?_
      refine x_aload_n dX12_notes_36 rfl 37 rfl ?_
      refine gf12_1 dX12_notes_37 40 rfl hk_l0 kw5_160 ?_
      refine x_iconst dX12_notes_40 kc_0 41 rfl ?_
      refine x_iaload dX12_notes_41 (ly12_1 hk_l0) (by unfold vp_in; decide) 42 rfl ?_
      obtain ⟨hin, h⟩ := h
      refine x_iastore dX12_notes_42 (ly12_9 hk_l0) hin 43 rfl (x_mem (fun M1 hM1 => ?_))
      have h := h M1 hM1
      refine x_aload_n dX12_notes_43 rfl 44 rfl ?_
      refine gf12_9 dX12_notes_44 47 rfl hk_l0 kw5_168 ?_
      refine x_iload dX12_notes_47 rfl 49 rfl ?_
      refine x_iconst dX12_notes_49 kc_1 50 rfl ?_
      refine x_iadd dX12_notes_50 51 rfl ?_
      refine x_iload_n dX12_notes_51 rfl 52 rfl ?_
      obtain ⟨hin, h⟩ := h
      refine x_iastore dX12_notes_52 (ly12_9 hk_l0) hin 53 rfl (x_mem (fun M2 hM2 => ?_))
      have h := h M2 hM2
      refine x_aload_n dX12_notes_53 rfl 54 rfl ?_
      refine gf12_9 dX12_notes_54 57 rfl hk_l0 kw5_168 ?_
      refine x_iload dX12_notes_57 rfl 59 rfl ?_
      refine x_iconst dX12_notes_59 kc_2 60 rfl ?_
      refine x_iadd dX12_notes_60 61 rfl ?_
      refine x_iload_n dX12_notes_61 rfl 62 rfl ?_
      obtain ⟨hin, h⟩ := h
      refine x_iastore dX12_notes_62 (ly12_9 hk_l0) hin 63 rfl (x_mem (fun M3 hM3 => ?_))
      have h := h M3 hM3
      refine x_aload_n dX12_notes_63 rfl 64 rfl ?_
      refine gf12_9 dX12_notes_64 67 rfl hk_l0 kw5_168 ?_
      refine x_iload dX12_notes_67 rfl 69 rfl ?_
      refine x_iconst dX12_notes_69 kc_3 70 rfl ?_
      refine x_iadd dX12_notes_70 71 rfl ?_
      refine x_iload_n dX12_notes_71 rfl 72 rfl ?_
      obtain ⟨hin, h⟩ := h
      refine x_iastore dX12_notes_72 (ly12_9 hk_l0) hin 73 rfl (x_mem (fun M4 hM4 => ?_))
      have h := h M4 hM4
      refine x_aload_n dX12_notes_73 rfl 74 rfl ?_
      refine gf12_1 dX12_notes_74 77 rfl hk_l0 kw5_160 ?_
      refine x_iconst dX12_notes_77 kc_2 78 rfl ?_
      refine x_aload_n dX12_notes_78 rfl 79 rfl ?_
      refine gf12_1 dX12_notes_79 82 rfl hk_l0 kw5_160 ?_
      refine x_iconst dX12_notes_82 kc_2 83 rfl ?_
      refine x_iaload dX12_notes_83 (ly12_1 hk_l0) (by unfold vp_in; decide) 84 rfl ?_
      refine x_iconst dX12_notes_84 kc_1 85 rfl ?_
      refine x_iadd dX12_notes_85 86 rfl ?_
      refine x_iastore dX12_notes_86 (ly12_1 hk_l0) (by unfold vp_in; decide) 87 rfl (x_mem (fun M5 hM5 => ?_))
      have h := h M5 hM5
      exact x_vret dX12_notes_87 h
    · have h := h.2 hc
      exact x_vret dX12_notes_19 h
theorem cX12_notes_ {Q : Mem → Prop} {l0 : Nat} {l1 : Int32} {l2 : Int32} {l3 : Int32} {M : Mem} (hk_l0 : SHk l0 = 12) (h : FX12_notes Q l0 l1 l2 l3 M) : xM yX12_notes cX12_notes 5 none 1 [.ref l0, .int l1, .int l2, .int l3] M (xQv Q) := xM_of (by decide +kernel) (Nat.le_of_ble_eq_true rfl) (eX12_notes hk_l0 h)
theorem kX12_notes {own : String} {cc : ByteArray} {nL : Nat} {rt : Option FieldType} {d pc ix : Nat} {L : List (Nat × Value)} {st : List Value} {M : Mem} {Rt : xGt → Array Value → State → Outcome → State → Prop} {Q : Mem → Prop} {l0 : Nat} {l1 : Int32} {l2 : Int32} {l3 : Int32} (hd : decode cc pc = .ok (.invokevirtual ix, 3)) (q : Nat) (hq : pc + 3 = q) (hk_l0 : SHk l0 = 12) (w1 : Cond.methodLink own ix yX12_notes ∈ xTs) (hr : 1 < d) (hst : (st.map fun v => v.category).sum ≤ 8) (h : FX12_notes Q l0 l1 l2 l3 M) (k : ∀ (N : Mem), Q N → xX own cc nL rt d q L st N Rt) : xX own cc nL rt d pc L (.int l3 :: .int l2 :: .int l1 :: .ref l0 :: st) M Rt :=
  x_callV_v (n := 3) (As := [.int l1, .int l2, .int l3]) hd q hq hk_l0 (by decide) rfl rfl w1 kw6_104 ks3_6 kw1_14 kw6_105 (by decide +kernel) rfl hr (by decide) hst _ rfl (cX12_notes_ hk_l0 h) k
def lbX12_leavesGround_18 (Q : Mem → Prop) (l0 : Nat) (B18 : Int32 → Mem → Prop) (l2 : Int32) (M : Mem) : Prop :=
  (((M (l0 + 1) 6) ≤ l2 → Q M) ∧ (¬ (M (l0 + 1) 6) ≤ l2 → vp_in ((93 + l2) + 1) 107 ∧ vp_in (93 + l2) 107 ∧ ∀ M1 : Mem, M1 = xu M (l0 + 1) (ix (93 + l2)) (M (l0 + 1) (ix ((93 + l2) + 1))) → B18 (l2 + 1) M1))
def NX12_leavesGround_18 (Q : Mem → Prop) (l0 : Nat) (l2 : Int32) (M : Mem) : Prop := xlp (fun (B : Int32 × Mem → Prop) a => lbX12_leavesGround_18 Q l0 (fun l2 M => B (l2, M)) a.1 a.2) (l2, M)
theorem nX12_leavesGround_18 {Q : Mem → Prop} {l0 : Nat} {l2 : Int32} {M : Mem} (hk_l0 : SHk l0 = 12) (h : NX12_leavesGround_18 Q l0 l2 M) : xX RX12 cX12_leavesGround 3 none 1 18 [(0, .ref l0), (2, .int l2)] [] M (xQv Q) := by
  obtain ⟨n, h⟩ := h
  have hB18 : ∀ (n : Nat) (l2 : Int32) (M : Mem), xlpn (fun (B : Int32 × Mem → Prop) a => lbX12_leavesGround_18 Q l0 (fun l2 M => B (l2, M)) a.1 a.2) n (l2, M) → xX RX12 cX12_leavesGround 3 none 1 18 [(0, .ref l0), (2, .int l2)] [] M (xQv Q) := by
    intro n
    induction n with
    | zero => intro l2 M h; exact False.elim h
    | succ n ih =>
      intro l2 M h
      have hB18 := ih
      have h : lbX12_leavesGround_18 Q l0 (fun l2 M => xlpn (fun (B : Int32 × Mem → Prop) a => lbX12_leavesGround_18 Q l0 (fun l2 M => B (l2, M)) a.1 a.2) n (l2, M)) l2 M := h
      unfold lbX12_leavesGround_18 at h
      refine x_iload_n dX12_leavesGround_18 rfl 19 rfl ?_
      refine x_aload_n dX12_leavesGround_19 rfl 20 rfl ?_
      refine gf12_1 dX12_leavesGround_20 23 rfl hk_l0 kw5_160 ?_
      refine x_bipush dX12_leavesGround_23 kb_6 25 rfl ?_
      refine x_iaload dX12_leavesGround_25 (ly12_1 hk_l0) (by unfold vp_in; decide) 26 rfl ?_
      refine x_icmp_ge dX12_leavesGround_26 55 29 rfl rfl (fun hc => ?_) (fun hc => ?_)
      · have h := h.1 hc
        exact x_vret dX12_leavesGround_55 h
      · have h := h.2 hc
        refine x_aload_n dX12_leavesGround_29 rfl 30 rfl ?_
        refine gf12_1 dX12_leavesGround_30 33 rfl hk_l0 kw5_160 ?_
        refine x_bipush dX12_leavesGround_33 kb_93 35 rfl ?_
        refine x_iload_n dX12_leavesGround_35 rfl 36 rfl ?_
        refine x_iadd dX12_leavesGround_36 37 rfl ?_
        refine x_aload_n dX12_leavesGround_37 rfl 38 rfl ?_
        refine gf12_1 dX12_leavesGround_38 41 rfl hk_l0 kw5_160 ?_
        refine x_bipush dX12_leavesGround_41 kb_93 43 rfl ?_
        refine x_iload_n dX12_leavesGround_43 rfl 44 rfl ?_
        refine x_iadd dX12_leavesGround_44 45 rfl ?_
        refine x_iconst dX12_leavesGround_45 kc_1 46 rfl ?_
        refine x_iadd dX12_leavesGround_46 47 rfl ?_
        obtain ⟨hin, h⟩ := h
        refine x_iaload dX12_leavesGround_47 (ly12_1 hk_l0) hin 48 rfl ?_
        obtain ⟨hin, h⟩ := h
        refine x_iastore dX12_leavesGround_48 (ly12_1 hk_l0) hin 49 rfl (x_mem (fun M1 hM1 => ?_))
        have h := h M1 hM1
        refine x_iinc dX12_leavesGround_49 rfl (congrArg (l2 + ·) kc_1) (Nat.le_of_ble_eq_true rfl) [(0, .ref l0), (2, .int (l2 + 1))] rfl 52 rfl ?_
        refine x_goto dX12_leavesGround_52 18 rfl ?_
        exact hB18 _ _ h
  exact hB18 n l2 M h
def FX12_leavesGround (Q : Mem → Prop) (l0 : Nat) (l1 : Int32) (M : Mem) : Prop :=
  ∀ M2 : Mem, M2 = xu M (l0 + 1) (6) ((M (l0 + 1) 6) - 1) → NX12_leavesGround_18 Q l0 l1 M2
theorem eX12_leavesGround {Q : Mem → Prop} {l0 : Nat} {l1 : Int32} {M : Mem} (hk_l0 : SHk l0 = 12) (h : FX12_leavesGround Q l0 l1 M) : xX RX12 cX12_leavesGround 3 none 1 0 [(0, .ref l0), (1, .int l1)] [] M (xQv Q) := by
  unfold FX12_leavesGround at h
  refine x_aload_n dX12_leavesGround_0 rfl 1 rfl ?_
  refine gf12_1 dX12_leavesGround_1 4 rfl hk_l0 kw5_160 ?_
  refine x_bipush dX12_leavesGround_4 kb_6 6 rfl ?_
  refine x_aload_n dX12_leavesGround_6 rfl 7 rfl ?_
  refine gf12_1 dX12_leavesGround_7 10 rfl hk_l0 kw5_160 ?_
  refine x_bipush dX12_leavesGround_10 kb_6 12 rfl ?_
  refine x_iaload dX12_leavesGround_12 (ly12_1 hk_l0) (by unfold vp_in; decide) 13 rfl ?_
  refine x_iconst dX12_leavesGround_13 kc_1 14 rfl ?_
  refine x_isub dX12_leavesGround_14 15 rfl ?_
  refine x_iastore dX12_leavesGround_15 (ly12_1 hk_l0) (by unfold vp_in; decide) 16 rfl (x_mem (fun M2 hM2 => ?_))
  have h := h M2 hM2
  refine x_iload_n dX12_leavesGround_16 rfl 17 rfl ?_
  refine x_istore_n dX12_leavesGround_17 (Nat.le_of_ble_eq_true rfl) [(0, .ref l0), (1, .int l1), (2, .int l1)] rfl 18 rfl ?_
  refine x_weak [(0, .ref l0), (2, .int l1)] [0, 2] rfl ?_
  exact nX12_leavesGround_18 hk_l0 h
theorem cX12_leavesGround_ {Q : Mem → Prop} {l0 : Nat} {l1 : Int32} {M : Mem} (hk_l0 : SHk l0 = 12) (h : FX12_leavesGround Q l0 l1 M) : xM yX12_leavesGround cX12_leavesGround 3 none 1 [.ref l0, .int l1] M (xQv Q) := xM_of (by decide +kernel) (Nat.le_of_ble_eq_true rfl) (eX12_leavesGround hk_l0 h)
theorem kX12_leavesGround {own : String} {cc : ByteArray} {nL : Nat} {rt : Option FieldType} {d pc ix : Nat} {L : List (Nat × Value)} {st : List Value} {M : Mem} {Rt : xGt → Array Value → State → Outcome → State → Prop} {Q : Mem → Prop} {l0 : Nat} {l1 : Int32} (hd : decode cc pc = .ok (.invokevirtual ix, 3)) (q : Nat) (hq : pc + 3 = q) (hk_l0 : SHk l0 = 12) (w1 : Cond.methodLink own ix yX12_leavesGround ∈ xTs) (hr : 1 < d) (hst : (st.map fun v => v.category).sum ≤ 8) (h : FX12_leavesGround Q l0 l1 M) (k : ∀ (N : Mem), Q N → xX own cc nL rt d q L st N Rt) : xX own cc nL rt d pc L (.int l1 :: .ref l0 :: st) M Rt :=
  x_callV_v (n := 1) (As := [.int l1]) hd q hq hk_l0 (by decide) rfl rfl w1 kw6_100 ks3_5 kw1_14 kw6_101 (by decide +kernel) rfl hr (by decide) hst _ rfl (cX12_leavesGround_ hk_l0 h) k
def FX12_comesBehind (Q : Mem → Prop) (l0 : Nat) (l1 : Int32) (M : Mem) : Prop :=
  vp_in (93 + (M (l0 + 1) 6)) 107 ∧ ∀ M1 : Mem, M1 = xu M (l0 + 1) (ix (93 + (M (l0 + 1) 6))) l1 → ∀ M2 : Mem, M2 = xu M1 (l0 + 1) (6) ((M1 (l0 + 1) 6) + 1) → Q M2
theorem eX12_comesBehind {Q : Mem → Prop} {l0 : Nat} {l1 : Int32} {M : Mem} (hk_l0 : SHk l0 = 12) (h : FX12_comesBehind Q l0 l1 M) : xX RX12 cX12_comesBehind 2 none 1 0 [(0, .ref l0), (1, .int l1)] [] M (xQv Q) := by
  unfold FX12_comesBehind at h
  refine x_aload_n dX12_comesBehind_0 rfl 1 rfl ?_
  refine gf12_1 dX12_comesBehind_1 4 rfl hk_l0 kw5_160 ?_
  refine x_bipush dX12_comesBehind_4 kb_93 6 rfl ?_
  refine x_aload_n dX12_comesBehind_6 rfl 7 rfl ?_
  refine gf12_1 dX12_comesBehind_7 10 rfl hk_l0 kw5_160 ?_
  refine x_bipush dX12_comesBehind_10 kb_6 12 rfl ?_
  refine x_iaload dX12_comesBehind_12 (ly12_1 hk_l0) (by unfold vp_in; decide) 13 rfl ?_
  refine x_iadd dX12_comesBehind_13 14 rfl ?_
  refine x_iload_n dX12_comesBehind_14 rfl 15 rfl ?_
  obtain ⟨hin, h⟩ := h
  refine x_iastore dX12_comesBehind_15 (ly12_1 hk_l0) hin 16 rfl (x_mem (fun M1 hM1 => ?_))
  have h := h M1 hM1
  refine x_aload_n dX12_comesBehind_16 rfl 17 rfl ?_
  refine gf12_1 dX12_comesBehind_17 20 rfl hk_l0 kw5_160 ?_
  refine x_bipush dX12_comesBehind_20 kb_6 22 rfl ?_
  refine x_aload_n dX12_comesBehind_22 rfl 23 rfl ?_
  refine gf12_1 dX12_comesBehind_23 26 rfl hk_l0 kw5_160 ?_
  refine x_bipush dX12_comesBehind_26 kb_6 28 rfl ?_
  refine x_iaload dX12_comesBehind_28 (ly12_1 hk_l0) (by unfold vp_in; decide) 29 rfl ?_
  refine x_iconst dX12_comesBehind_29 kc_1 30 rfl ?_
  refine x_iadd dX12_comesBehind_30 31 rfl ?_
  refine x_iastore dX12_comesBehind_31 (ly12_1 hk_l0) (by unfold vp_in; decide) 32 rfl (x_mem (fun M2 hM2 => ?_))
  have h := h M2 hM2
  exact x_vret dX12_comesBehind_32 h
theorem cX12_comesBehind_ {Q : Mem → Prop} {l0 : Nat} {l1 : Int32} {M : Mem} (hk_l0 : SHk l0 = 12) (h : FX12_comesBehind Q l0 l1 M) : xM yX12_comesBehind cX12_comesBehind 2 none 1 [.ref l0, .int l1] M (xQv Q) := xM_of (by decide +kernel) (Nat.le_of_ble_eq_true rfl) (eX12_comesBehind hk_l0 h)
theorem kX12_comesBehind {own : String} {cc : ByteArray} {nL : Nat} {rt : Option FieldType} {d pc ix : Nat} {L : List (Nat × Value)} {st : List Value} {M : Mem} {Rt : xGt → Array Value → State → Outcome → State → Prop} {Q : Mem → Prop} {l0 : Nat} {l1 : Int32} (hd : decode cc pc = .ok (.invokevirtual ix, 3)) (q : Nat) (hq : pc + 3 = q) (hk_l0 : SHk l0 = 12) (w1 : Cond.methodLink own ix yX12_comesBehind ∈ xTs) (hr : 1 < d) (hst : (st.map fun v => v.category).sum ≤ 8) (h : FX12_comesBehind Q l0 l1 M) (k : ∀ (N : Mem), Q N → xX own cc nL rt d q L st N Rt) : xX own cc nL rt d pc L (.int l1 :: .ref l0 :: st) M Rt :=
  x_callV_v (n := 1) (As := [.int l1]) hd q hq hk_l0 (by decide) rfl rfl w1 kw6_112 ks3_7 kw1_14 kw6_113 (by decide +kernel) rfl hr (by decide) hst _ rfl (cX12_comesBehind_ hk_l0 h) k
def NX12_allClimb_91 (Q : Mem → Prop) (B7 : Int32 → Mem → Prop) (l0 : Nat) (l1 : Int32) (l3 : Int32) (M : Mem) : Prop :=
  vp_in (73 + l1) 107 ∧ ∀ M1 : Mem, M1 = xu M (l0 + 1) (ix (73 + l1)) (l3 + 1) → FX12_notes (fun (M2 : Mem) => B7 (l1 + (-1)) M2) l0 2 l3 l1 M1
theorem nX12_allClimb_91 {Q : Mem → Prop} {B7 : Int32 → Mem → Prop} {l0 : Nat} {l1 : Int32} {l3 : Int32} {M : Mem} (hB7 : ∀ (l1 : Int32) (M : Mem), B7 l1 M → xX RX12 cX12_allClimb 4 none 3 7 [(0, .ref l0), (1, .int l1)] [] M (xQv Q)) (hk_l0 : SHk l0 = 12) (h : NX12_allClimb_91 Q B7 l0 l1 l3 M) : xX RX12 cX12_allClimb 4 none 3 91 [(0, .ref l0), (1, .int l1), (3, .int l3)] [] M (xQv Q) := by
  unfold NX12_allClimb_91 at h
  refine x_aload_n dX12_allClimb_91 rfl 92 rfl ?_
  refine gf12_1 dX12_allClimb_92 95 rfl hk_l0 kw5_160 ?_
  refine x_bipush dX12_allClimb_95 kb_73 97 rfl ?_
  refine x_iload_n dX12_allClimb_97 rfl 98 rfl ?_
  refine x_iadd dX12_allClimb_98 99 rfl ?_
  refine x_iload_n dX12_allClimb_99 rfl 100 rfl ?_
  refine x_iconst dX12_allClimb_100 kc_1 101 rfl ?_
  refine x_iadd dX12_allClimb_101 102 rfl ?_
  obtain ⟨hin, h⟩ := h
  refine x_iastore dX12_allClimb_102 (ly12_1 hk_l0) hin 103 rfl (x_mem (fun M1 hM1 => ?_))
  have h := h M1 hM1
  refine x_aload_n dX12_allClimb_103 rfl 104 rfl ?_
  refine x_iconst dX12_allClimb_104 kc_2 105 rfl ?_
  refine x_iload_n dX12_allClimb_105 rfl 106 rfl ?_
  refine x_iload_n dX12_allClimb_106 rfl 107 rfl ?_
  refine kX12_notes dX12_allClimb_107 110 rfl hk_l0 kw6_102 (Nat.le_of_ble_eq_true rfl) (Nat.le_of_ble_eq_true rfl) h (fun M2 h => ?_)
  refine x_iinc dX12_allClimb_110 rfl (congrArg (l1 + ·) kc_m1) (Nat.le_of_ble_eq_true rfl) [(0, .ref l0), (1, .int (l1 + (-1))), (3, .int l3)] rfl 113 rfl ?_
  refine x_goto dX12_allClimb_113 7 rfl ?_
  refine x_weak [(0, .ref l0), (1, .int (l1 + (-1)))] [0, 1] rfl ?_
  exact hB7 _ _ h
def NX12_allClimb_67 (Q : Mem → Prop) (B7 : Int32 → Mem → Prop) (l0 : Nat) (l1 : Int32) (l2 : Int32) (s0 : Int32) (M : Mem) : Prop :=
  ((¬ l2 = (-1) → vp_in (73 + l2) 107 ∧ ∀ M3 : Mem, M3 = xu M (l0 + 1) (ix (73 + l2)) 0 → NX12_allClimb_91 Q B7 l0 l1 s0 M3) ∧ (l2 = (-1) → FX12_leavesGround (fun (M4 : Mem) => NX12_allClimb_91 Q B7 l0 l1 s0 M4) l0 0 M))
theorem nX12_allClimb_67 {Q : Mem → Prop} {B7 : Int32 → Mem → Prop} {l0 : Nat} {l1 : Int32} {l2 : Int32} {s0 : Int32} {M : Mem} (hB7 : ∀ (l1 : Int32) (M : Mem), B7 l1 M → xX RX12 cX12_allClimb 4 none 3 7 [(0, .ref l0), (1, .int l1)] [] M (xQv Q)) (hk_l0 : SHk l0 = 12) (h : NX12_allClimb_67 Q B7 l0 l1 l2 s0 M) : xX RX12 cX12_allClimb 4 none 3 67 [(0, .ref l0), (1, .int l1), (2, .int l2)] [.int s0] M (xQv Q) := by
  unfold NX12_allClimb_67 at h
  refine x_istore_n dX12_allClimb_67 (Nat.le_of_ble_eq_true rfl) [(0, .ref l0), (1, .int l1), (2, .int l2), (3, .int s0)] rfl 68 rfl ?_
  refine x_iload_n dX12_allClimb_68 rfl 69 rfl ?_
  refine x_iconst dX12_allClimb_69 kc_m1 70 rfl ?_
  refine x_icmp_ne dX12_allClimb_70 81 73 rfl rfl (fun hc => ?_) (fun hc => ?_)
  · have h := h.1 hc
    refine x_aload_n dX12_allClimb_81 rfl 82 rfl ?_
    refine gf12_1 dX12_allClimb_82 85 rfl hk_l0 kw5_160 ?_
    refine x_bipush dX12_allClimb_85 kb_73 87 rfl ?_
    refine x_iload_n dX12_allClimb_87 rfl 88 rfl ?_
    refine x_iadd dX12_allClimb_88 89 rfl ?_
    refine x_iconst dX12_allClimb_89 kc_0 90 rfl ?_
    obtain ⟨hin, h⟩ := h
    refine x_iastore dX12_allClimb_90 (ly12_1 hk_l0) hin 91 rfl (x_mem (fun M3 hM3 => ?_))
    have h := h M3 hM3
    refine x_weak [(0, .ref l0), (1, .int l1), (3, .int s0)] [0, 1, 3] rfl ?_
    exact nX12_allClimb_91 hB7 hk_l0 h
  · have h := h.2 hc
    refine x_aload_n dX12_allClimb_73 rfl 74 rfl ?_
    refine x_iconst dX12_allClimb_74 kc_0 75 rfl ?_
    refine kX12_leavesGround dX12_allClimb_75 78 rfl hk_l0 kw6_98 (Nat.le_of_ble_eq_true rfl) (Nat.le_of_ble_eq_true rfl) h (fun M4 h => ?_)
    refine x_goto dX12_allClimb_78 91 rfl ?_
    refine x_weak [(0, .ref l0), (1, .int l1), (3, .int s0)] [0, 1, 3] rfl ?_
    exact nX12_allClimb_91 hB7 hk_l0 h
def NX12_allClimb_47 (Q : Mem → Prop) (B7 : Int32 → Mem → Prop) (l0 : Nat) (l1 : Int32) (l2 : Int32) (M : Mem) : Prop :=
  ((¬ l2 = (-1) → FX12_sitterOf (fun (r5 : Int32) => NX12_allClimb_67 Q B7 l0 l1 l2 r5 M) l0 l2 M) ∧ (l2 = (-1) → NX12_allClimb_67 Q B7 l0 l1 l2 (M (l0 + 1) 93) M))
theorem nX12_allClimb_47 {Q : Mem → Prop} {B7 : Int32 → Mem → Prop} {l0 : Nat} {l1 : Int32} {l2 : Int32} {M : Mem} (hB7 : ∀ (l1 : Int32) (M : Mem), B7 l1 M → xX RX12 cX12_allClimb 4 none 3 7 [(0, .ref l0), (1, .int l1)] [] M (xQv Q)) (hk_l0 : SHk l0 = 12) (h : NX12_allClimb_47 Q B7 l0 l1 l2 M) : xX RX12 cX12_allClimb 4 none 3 47 [(0, .ref l0), (1, .int l1), (2, .int l2)] [] M (xQv Q) := by
  unfold NX12_allClimb_47 at h
  refine x_iload_n dX12_allClimb_47 rfl 48 rfl ?_
  refine x_iconst dX12_allClimb_48 kc_m1 49 rfl ?_
  refine x_icmp_ne dX12_allClimb_49 62 52 rfl rfl (fun hc => ?_) (fun hc => ?_)
  · have h := h.1 hc
    refine x_aload_n dX12_allClimb_62 rfl 63 rfl ?_
    refine x_iload_n dX12_allClimb_63 rfl 64 rfl ?_
    refine kX12_sitterOf dX12_allClimb_64 67 rfl hk_l0 kw6_90 (Nat.le_of_ble_eq_true rfl) (Nat.le_of_ble_eq_true rfl) h (fun r5 h => ?_)
    exact nX12_allClimb_67 hB7 hk_l0 h
  · have h := h.2 hc
    refine x_aload_n dX12_allClimb_52 rfl 53 rfl ?_
    refine gf12_1 dX12_allClimb_53 56 rfl hk_l0 kw5_160 ?_
    refine x_bipush dX12_allClimb_56 kb_93 58 rfl ?_
    refine x_iaload dX12_allClimb_58 (ly12_1 hk_l0) (by unfold vp_in; decide) 59 rfl ?_
    refine x_goto dX12_allClimb_59 67 rfl ?_
    exact nX12_allClimb_67 hB7 hk_l0 h
def lbX12_allClimb_7 (Q : Mem → Prop) (l0 : Nat) (B7 : Int32 → Mem → Prop) (l1 : Int32) (M : Mem) : Prop :=
  ((l1 < 0 → Q M) ∧ (¬ l1 < 0 → FX12_sitterOf (fun (r6 : Int32) => ((r6 = (-1) → FX12_nextBelow (fun (r7 : Int32) => ((¬ r7 = (-1) → NX12_allClimb_47 Q B7 l0 l1 r7 M) ∧ (r7 = (-1) → ((¬ (M (l0 + 1) 6) = 0 → NX12_allClimb_47 Q B7 l0 l1 r7 M) ∧ ((M (l0 + 1) 6) = 0 → B7 (l1 + (-1)) M))))) l0 l1 M) ∧ (¬ r6 = (-1) → B7 (l1 + (-1)) M))) l0 l1 M))
def NX12_allClimb_7 (Q : Mem → Prop) (l0 : Nat) (l1 : Int32) (M : Mem) : Prop := xlp (fun (B : Int32 × Mem → Prop) a => lbX12_allClimb_7 Q l0 (fun l1 M => B (l1, M)) a.1 a.2) (l1, M)
theorem nX12_allClimb_7 {Q : Mem → Prop} {l0 : Nat} {l1 : Int32} {M : Mem} (hk_l0 : SHk l0 = 12) (h : NX12_allClimb_7 Q l0 l1 M) : xX RX12 cX12_allClimb 4 none 3 7 [(0, .ref l0), (1, .int l1)] [] M (xQv Q) := by
  obtain ⟨n, h⟩ := h
  have hB7 : ∀ (n : Nat) (l1 : Int32) (M : Mem), xlpn (fun (B : Int32 × Mem → Prop) a => lbX12_allClimb_7 Q l0 (fun l1 M => B (l1, M)) a.1 a.2) n (l1, M) → xX RX12 cX12_allClimb 4 none 3 7 [(0, .ref l0), (1, .int l1)] [] M (xQv Q) := by
    intro n
    induction n with
    | zero => intro l1 M h; exact False.elim h
    | succ n ih =>
      intro l1 M h
      have hB7 := ih
      have h : lbX12_allClimb_7 Q l0 (fun l1 M => xlpn (fun (B : Int32 × Mem → Prop) a => lbX12_allClimb_7 Q l0 (fun l1 M => B (l1, M)) a.1 a.2) n (l1, M)) l1 M := h
      unfold lbX12_allClimb_7 at h
      refine x_iload_n dX12_allClimb_7 rfl 8 rfl ?_
      refine x_if_lt dX12_allClimb_8 116 11 rfl rfl (fun hc => ?_) (fun hc => ?_)
      · have h := h.1 hc
        exact x_vret dX12_allClimb_116 h
      · have h := h.2 hc
        refine x_aload_n dX12_allClimb_11 rfl 12 rfl ?_
        refine x_iload_n dX12_allClimb_12 rfl 13 rfl ?_
        refine kX12_sitterOf dX12_allClimb_13 16 rfl hk_l0 kw6_90 (Nat.le_of_ble_eq_true rfl) (Nat.le_of_ble_eq_true rfl) h (fun r6 h => ?_)
        refine x_iconst dX12_allClimb_16 kc_m1 17 rfl ?_
        refine x_icmp_eq dX12_allClimb_17 23 20 rfl rfl (fun hc => ?_) (fun hc => ?_)
        · have h := h.1 hc
          refine x_aload_n dX12_allClimb_23 rfl 24 rfl ?_
          refine x_iload_n dX12_allClimb_24 rfl 25 rfl ?_
          refine kX12_nextBelow dX12_allClimb_25 28 rfl hk_l0 kw6_94 (Nat.le_of_ble_eq_true rfl) (Nat.le_of_ble_eq_true rfl) h (fun r7 h => ?_)
          refine x_istore_n dX12_allClimb_28 (Nat.le_of_ble_eq_true rfl) [(0, .ref l0), (1, .int l1), (2, .int r7)] rfl 29 rfl ?_
          refine x_iload_n dX12_allClimb_29 rfl 30 rfl ?_
          refine x_iconst dX12_allClimb_30 kc_m1 31 rfl ?_
          refine x_icmp_ne dX12_allClimb_31 47 34 rfl rfl (fun hc => ?_) (fun hc => ?_)
          · have h := h.1 hc
            exact nX12_allClimb_47 hB7 hk_l0 h
          · have h := h.2 hc
            refine x_aload_n dX12_allClimb_34 rfl 35 rfl ?_
            refine gf12_1 dX12_allClimb_35 38 rfl hk_l0 kw5_160 ?_
            refine x_bipush dX12_allClimb_38 kb_6 40 rfl ?_
            refine x_iaload dX12_allClimb_40 (ly12_1 hk_l0) (by unfold vp_in; decide) 41 rfl ?_
            refine x_if_ne dX12_allClimb_41 47 44 rfl rfl (fun hc => ?_) (fun hc => ?_)
            · have h := h.1 hc
              exact nX12_allClimb_47 hB7 hk_l0 h
            · have h := h.2 hc
              refine x_goto dX12_allClimb_44 110 rfl ?_
              refine x_iinc dX12_allClimb_110 rfl (congrArg (l1 + ·) kc_m1) (Nat.le_of_ble_eq_true rfl) [(0, .ref l0), (1, .int (l1 + (-1))), (2, .int r7)] rfl 113 rfl ?_
              refine x_goto dX12_allClimb_113 7 rfl ?_
              refine x_weak [(0, .ref l0), (1, .int (l1 + (-1)))] [0, 1] rfl ?_
              exact hB7 _ _ h
        · have h := h.2 hc
          refine x_goto dX12_allClimb_20 110 rfl ?_
          refine x_iinc dX12_allClimb_110 rfl (congrArg (l1 + ·) kc_m1) (Nat.le_of_ble_eq_true rfl) [(0, .ref l0), (1, .int (l1 + (-1)))] rfl 113 rfl ?_
          refine x_goto dX12_allClimb_113 7 rfl ?_
          exact hB7 _ _ h
  exact hB7 n l1 M h
def FX12_allClimb (Q : Mem → Prop) (l0 : Nat) (M : Mem) : Prop :=
  NX12_allClimb_7 Q l0 ((M l0 6) - 1) M
theorem eX12_allClimb {Q : Mem → Prop} {l0 : Nat} {M : Mem} (hk_l0 : SHk l0 = 12) (h : FX12_allClimb Q l0 M) : xX RX12 cX12_allClimb 4 none 3 0 [(0, .ref l0)] [] M (xQv Q) := by
  unfold FX12_allClimb at h
  refine x_aload_n dX12_allClimb_0 rfl 1 rfl ?_
  refine gf12_6 dX12_allClimb_1 4 rfl hk_l0 kw5_165 ?_
  refine x_iconst dX12_allClimb_4 kc_1 5 rfl ?_
  refine x_isub dX12_allClimb_5 6 rfl ?_
  refine x_istore_n dX12_allClimb_6 (Nat.le_of_ble_eq_true rfl) [(0, .ref l0), (1, .int ((M l0 6) - 1))] rfl 7 rfl ?_
  exact nX12_allClimb_7 hk_l0 h
theorem cX12_allClimb_ {Q : Mem → Prop} {l0 : Nat} {M : Mem} (hk_l0 : SHk l0 = 12) (h : FX12_allClimb Q l0 M) : xM yX12_allClimb cX12_allClimb 4 none 3 [.ref l0] M (xQv Q) := xM_of (by decide +kernel) (Nat.le_of_ble_eq_true rfl) (eX12_allClimb hk_l0 h)
theorem kX12_allClimb {own : String} {cc : ByteArray} {nL : Nat} {rt : Option FieldType} {d pc ix : Nat} {L : List (Nat × Value)} {st : List Value} {M : Mem} {Rt : xGt → Array Value → State → Outcome → State → Prop} {Q : Mem → Prop} {l0 : Nat} (hd : decode cc pc = .ok (.invokevirtual ix, 3)) (q : Nat) (hq : pc + 3 = q) (hk_l0 : SHk l0 = 12) (w1 : Cond.methodLink own ix yX12_allClimb ∈ xTs) (hr : 3 < d) (hst : (st.map fun v => v.category).sum ≤ 8) (h : FX12_allClimb Q l0 M) (k : ∀ (N : Mem), Q N → xX own cc nL rt d q L st N Rt) : xX own cc nL rt d pc L (.ref l0 :: st) M Rt :=
  x_callV_v (n := 0) (As := []) hd q hq hk_l0 (by decide) rfl rfl w1 kw6_88 ks3_2 kw1_14 kw6_89 (by decide +kernel) rfl hr (by decide) hst _ rfl (cX12_allClimb_ hk_l0 h) k
def FX12_pillar (Q : Int32 → Mem → Prop) (l0 : Nat) (l1 : Int32) (M : Mem) : Prop :=
  ∀ M1 : Mem, M1 = xu M l0 0 0 → FX12_isIn (fun (r2 : Bool) => ((r2 = false → Q (-1) M1) ∧ (r2 = true → ((¬ (M1 l0 6) = 10 → vp_in (63 + (M1 l0 6)) 107 ∧ ∀ M3 : Mem, M3 = xu M1 (l0 + 1) (ix (63 + (M1 l0 6))) l1 → vp_in (73 + (M3 l0 6)) 107 ∧ ∀ M4 : Mem, M4 = xu M3 (l0 + 1) (ix (73 + (M3 l0 6))) 0 → vp_in (83 + (M4 l0 6)) 107 ∧ ∀ M5 : Mem, M5 = xu M4 (l0 + 1) (ix (83 + (M4 l0 6))) 0 → ∀ M6 : Mem, M6 = xu M5 l0 6 ((M5 l0 6) + 1) → FX12_allClimb (fun (M7 : Mem) => ∀ M8 : Mem, M8 = xu M7 l0 3 0 → Q ((M8 l0 6) - 1) M8) l0 M6) ∧ ((M1 l0 6) = 10 → Q (-1) M1))))) l0 l1 1 99 M1
theorem eX12_pillar {Q : Int32 → Mem → Prop} {l0 : Nat} {l1 : Int32} {M : Mem} (hk_l0 : SHk l0 = 12) (h : FX12_pillar Q l0 l1 M) : xX RX12 cX12_pillar 2 (some .int) 4 0 [(0, .ref l0), (1, .int l1)] [] M (xQi Q) := by
  unfold FX12_pillar at h
  refine x_aload_n dX12_pillar_0 rfl 1 rfl ?_
  refine x_iconst dX12_pillar_1 kc_0 2 rfl ?_
  refine pf12_0 dX12_pillar_2 5 rfl hk_l0 kw5_159 (x_mem (fun M1 hM1 => ?_))
  have h := h M1 hM1
  refine x_aload_n dX12_pillar_5 rfl 6 rfl ?_
  refine x_iload_n dX12_pillar_6 rfl 7 rfl ?_
  refine x_iconst dX12_pillar_7 kc_1 8 rfl ?_
  refine x_bipush dX12_pillar_8 kb_99 10 rfl ?_
  refine kX12_isIn dX12_pillar_10 13 rfl hk_l0 kw6_82 (Nat.le_of_ble_eq_true rfl) (Nat.le_of_ble_eq_true rfl) h (fun r2 h => ?_)
  refine x_if_eq_b dX12_pillar_13 25 16 rfl rfl (fun hc => ?_) (fun hc => ?_)
  · have h := h.1 hc
    refine x_iconst dX12_pillar_25 kc_m1 26 rfl ?_
    exact x_iret dX12_pillar_26 h
  · have h := h.2 hc
    refine x_aload_n dX12_pillar_16 rfl 17 rfl ?_
    refine gf12_6 dX12_pillar_17 20 rfl hk_l0 kw5_165 ?_
    refine x_bipush dX12_pillar_20 kb_10 22 rfl ?_
    refine x_icmp_ne dX12_pillar_22 27 25 rfl rfl (fun hc => ?_) (fun hc => ?_)
    · have h := h.1 hc
      refine x_aload_n dX12_pillar_27 rfl 28 rfl ?_
      refine gf12_1 dX12_pillar_28 31 rfl hk_l0 kw5_160 ?_
      refine x_bipush dX12_pillar_31 kb_63 33 rfl ?_
      refine x_aload_n dX12_pillar_33 rfl 34 rfl ?_
      refine gf12_6 dX12_pillar_34 37 rfl hk_l0 kw5_165 ?_
      refine x_iadd dX12_pillar_37 38 rfl ?_
      refine x_iload_n dX12_pillar_38 rfl 39 rfl ?_
      obtain ⟨hin, h⟩ := h
      refine x_iastore dX12_pillar_39 (ly12_1 hk_l0) hin 40 rfl (x_mem (fun M3 hM3 => ?_))
      have h := h M3 hM3
      refine x_aload_n dX12_pillar_40 rfl 41 rfl ?_
      refine gf12_1 dX12_pillar_41 44 rfl hk_l0 kw5_160 ?_
      refine x_bipush dX12_pillar_44 kb_73 46 rfl ?_
      refine x_aload_n dX12_pillar_46 rfl 47 rfl ?_
      refine gf12_6 dX12_pillar_47 50 rfl hk_l0 kw5_165 ?_
      refine x_iadd dX12_pillar_50 51 rfl ?_
      refine x_iconst dX12_pillar_51 kc_0 52 rfl ?_
      obtain ⟨hin, h⟩ := h
      refine x_iastore dX12_pillar_52 (ly12_1 hk_l0) hin 53 rfl (x_mem (fun M4 hM4 => ?_))
      have h := h M4 hM4
      refine x_aload_n dX12_pillar_53 rfl 54 rfl ?_
      refine gf12_1 dX12_pillar_54 57 rfl hk_l0 kw5_160 ?_
      refine x_bipush dX12_pillar_57 kb_83 59 rfl ?_
      refine x_aload_n dX12_pillar_59 rfl 60 rfl ?_
      refine gf12_6 dX12_pillar_60 63 rfl hk_l0 kw5_165 ?_
      refine x_iadd dX12_pillar_63 64 rfl ?_
      refine x_iconst dX12_pillar_64 kc_0 65 rfl ?_
      obtain ⟨hin, h⟩ := h
      refine x_iastore dX12_pillar_65 (ly12_1 hk_l0) hin 66 rfl (x_mem (fun M5 hM5 => ?_))
      have h := h M5 hM5
      refine x_aload_n dX12_pillar_66 rfl 67 rfl ?_
      refine x_aload_n dX12_pillar_67 rfl 68 rfl ?_
      refine gf12_6 dX12_pillar_68 71 rfl hk_l0 kw5_165 ?_
      refine x_iconst dX12_pillar_71 kc_1 72 rfl ?_
      refine x_iadd dX12_pillar_72 73 rfl ?_
      refine pf12_6 dX12_pillar_73 76 rfl hk_l0 kw5_165 (x_mem (fun M6 hM6 => ?_))
      have h := h M6 hM6
      refine x_aload_n dX12_pillar_76 rfl 77 rfl ?_
      refine kX12_allClimb dX12_pillar_77 80 rfl hk_l0 kw6_86 (Nat.le_of_ble_eq_true rfl) (Nat.le_of_ble_eq_true rfl) h (fun M7 h => ?_)
      refine x_aload_n dX12_pillar_80 rfl 81 rfl ?_
      refine x_iconst dX12_pillar_81 kc_0 82 rfl ?_
      refine pf12_3 dX12_pillar_82 85 rfl hk_l0 kw5_162 (x_mem (fun M8 hM8 => ?_))
      have h := h M8 hM8
      refine x_aload_n dX12_pillar_85 rfl 86 rfl ?_
      refine gf12_6 dX12_pillar_86 89 rfl hk_l0 kw5_165 ?_
      refine x_iconst dX12_pillar_89 kc_1 90 rfl ?_
      refine x_isub dX12_pillar_90 91 rfl ?_
      exact x_iret dX12_pillar_91 h
    · have h := h.2 hc
      refine x_iconst dX12_pillar_25 kc_m1 26 rfl ?_
      exact x_iret dX12_pillar_26 h
theorem cX12_pillar_ {Q : Int32 → Mem → Prop} {l0 : Nat} {l1 : Int32} {M : Mem} (hk_l0 : SHk l0 = 12) (h : FX12_pillar Q l0 l1 M) : xM yX12_pillar cX12_pillar 2 (some .int) 4 [.ref l0, .int l1] M (xQi Q) := xM_of (by decide +kernel) (Nat.le_of_ble_eq_true rfl) (eX12_pillar hk_l0 h)
theorem kX12_pillar {own : String} {cc : ByteArray} {nL : Nat} {rt : Option FieldType} {d pc ix : Nat} {L : List (Nat × Value)} {st : List Value} {M : Mem} {Rt : xGt → Array Value → State → Outcome → State → Prop} {Q : Int32 → Mem → Prop} {l0 : Nat} {l1 : Int32} (hd : decode cc pc = .ok (.invokevirtual ix, 3)) (q : Nat) (hq : pc + 3 = q) (hk_l0 : SHk l0 = 12) (w1 : Cond.methodLink own ix yX12_pillar ∈ xTs) (hr : 4 < d) (hst : (st.map fun v => v.category).sum ≤ 8) (h : FX12_pillar Q l0 l1 M) (k : ∀ (r : Int32) (N : Mem), Q r N → xX own cc nL rt d q L (.int r :: st) N Rt) : xX own cc nL rt d pc L (.int l1 :: .ref l0 :: st) M Rt :=
  x_callV_i (n := 1) (As := [.int l1]) hd q hq hk_l0 (by decide) rfl rfl w1 kw6_79 kw6_80 kw1_14 kw6_81 (by decide +kernel) rfl hr (by decide) hst _ rfl (cX12_pillar_ hk_l0 h) k
def FX12_saint (Q : Int32 → Mem → Prop) (l0 : Nat) (l1 : Int32) (l2 : Int32) (l3 : Int32) (M : Mem) : Prop :=
  ∀ M1 : Mem, M1 = xu M l0 0 0 → FX12_isIn (fun (r2 : Bool) => ((r2 = false → Q (-1) M1) ∧ (r2 = true → FX12_isIn (fun (r3 : Bool) => ((r3 = false → Q (-1) M1) ∧ (r3 = true → FX12_isIn (fun (r4 : Bool) => ((r4 = false → Q (-1) M1) ∧ (r4 = true → ((¬ (M1 l0 7) = 14 → vp_in (7 + (M1 l0 7)) 107 ∧ ∀ M5 : Mem, M5 = xu M1 (l0 + 1) (ix (7 + (M1 l0 7))) l1 → vp_in (21 + (M5 l0 7)) 107 ∧ ∀ M6 : Mem, M6 = xu M5 (l0 + 1) (ix (21 + (M5 l0 7))) l3 → vp_in (35 + (M6 l0 7)) 107 ∧ ∀ M7 : Mem, M7 = xu M6 (l0 + 1) (ix (35 + (M6 l0 7))) 0 → vp_in (49 + (M7 l0 7)) 107 ∧ ∀ M8 : Mem, M8 = xu M7 (l0 + 1) (ix (49 + (M7 l0 7))) 0 → vp_in (M8 l0 7) 14 ∧ ∀ M9 : Mem, M9 = xu M8 (l0 + 4) (ix (M8 l0 7)) l2 → FX12_comesBehind (fun (M10 : Mem) => ∀ M11 : Mem, M11 = xu M10 l0 7 ((M10 l0 7) + 1) → FX12_allClimb (fun (M12 : Mem) => ∀ M13 : Mem, M13 = xu M12 l0 3 0 → Q ((M13 l0 7) - 1) M13) l0 M11) l0 (M9 l0 7) M9) ∧ ((M1 l0 7) = 14 → Q (-1) M1))))) l0 l3 (-99) 99 M1))) l0 l2 0 9 M1))) l0 l1 0 120 M1
theorem eX12_saint {Q : Int32 → Mem → Prop} {l0 : Nat} {l1 : Int32} {l2 : Int32} {l3 : Int32} {M : Mem} (hk_l0 : SHk l0 = 12) (h : FX12_saint Q l0 l1 l2 l3 M) : xX RX12 cX12_saint 4 (some .int) 4 0 [(0, .ref l0), (1, .int l1), (2, .int l2), (3, .int l3)] [] M (xQi Q) := by
  unfold FX12_saint at h
  refine x_aload_n dX12_saint_0 rfl 1 rfl ?_
  refine x_iconst dX12_saint_1 kc_0 2 rfl ?_
  refine pf12_0 dX12_saint_2 5 rfl hk_l0 kw5_159 (x_mem (fun M1 hM1 => ?_))
  have h := h M1 hM1
  refine x_aload_n dX12_saint_5 rfl 6 rfl ?_
  refine x_iload_n dX12_saint_6 rfl 7 rfl ?_
  refine x_iconst dX12_saint_7 kc_0 8 rfl ?_
  refine x_bipush dX12_saint_8 kb_120 10 rfl ?_
  refine kX12_isIn dX12_saint_10 13 rfl hk_l0 kw6_82 (Nat.le_of_ble_eq_true rfl) (Nat.le_of_ble_eq_true rfl) h (fun r2 h => ?_)
  refine x_if_eq_b dX12_saint_13 48 16 rfl rfl (fun hc => ?_) (fun hc => ?_)
  · have h := h.1 hc
    refine x_iconst dX12_saint_48 kc_m1 49 rfl ?_
    exact x_iret dX12_saint_49 h
  · have h := h.2 hc
    refine x_aload_n dX12_saint_16 rfl 17 rfl ?_
    refine x_iload_n dX12_saint_17 rfl 18 rfl ?_
    refine x_iconst dX12_saint_18 kc_0 19 rfl ?_
    refine x_bipush dX12_saint_19 kb_9 21 rfl ?_
    refine kX12_isIn dX12_saint_21 24 rfl hk_l0 kw6_82 (Nat.le_of_ble_eq_true rfl) (Nat.le_of_ble_eq_true rfl) h (fun r3 h => ?_)
    refine x_if_eq_b dX12_saint_24 48 27 rfl rfl (fun hc => ?_) (fun hc => ?_)
    · have h := h.1 hc
      refine x_iconst dX12_saint_48 kc_m1 49 rfl ?_
      exact x_iret dX12_saint_49 h
    · have h := h.2 hc
      refine x_aload_n dX12_saint_27 rfl 28 rfl ?_
      refine x_iload_n dX12_saint_28 rfl 29 rfl ?_
      refine x_bipush dX12_saint_29 kb_m99 31 rfl ?_
      refine x_bipush dX12_saint_31 kb_99 33 rfl ?_
      refine kX12_isIn dX12_saint_33 36 rfl hk_l0 kw6_82 (Nat.le_of_ble_eq_true rfl) (Nat.le_of_ble_eq_true rfl) h (fun r4 h => ?_)
      refine x_if_eq_b dX12_saint_36 48 39 rfl rfl (fun hc => ?_) (fun hc => ?_)
      · have h := h.1 hc
        refine x_iconst dX12_saint_48 kc_m1 49 rfl ?_
        exact x_iret dX12_saint_49 h
      · have h := h.2 hc
        refine x_aload_n dX12_saint_39 rfl 40 rfl ?_
        refine gf12_7 dX12_saint_40 43 rfl hk_l0 kw5_166 ?_
        refine x_bipush dX12_saint_43 kb_14 45 rfl ?_
        refine x_icmp_ne dX12_saint_45 50 48 rfl rfl (fun hc => ?_) (fun hc => ?_)
        · have h := h.1 hc
          refine x_aload_n dX12_saint_50 rfl 51 rfl ?_
          refine gf12_1 dX12_saint_51 54 rfl hk_l0 kw5_160 ?_
          refine x_bipush dX12_saint_54 kb_7 56 rfl ?_
          refine x_aload_n dX12_saint_56 rfl 57 rfl ?_
          refine gf12_7 dX12_saint_57 60 rfl hk_l0 kw5_166 ?_
          refine x_iadd dX12_saint_60 61 rfl ?_
          refine x_iload_n dX12_saint_61 rfl 62 rfl ?_
          obtain ⟨hin, h⟩ := h
          refine x_iastore dX12_saint_62 (ly12_1 hk_l0) hin 63 rfl (x_mem (fun M5 hM5 => ?_))
          have h := h M5 hM5
          refine x_aload_n dX12_saint_63 rfl 64 rfl ?_
          refine gf12_1 dX12_saint_64 67 rfl hk_l0 kw5_160 ?_
          refine x_bipush dX12_saint_67 kb_21 69 rfl ?_
          refine x_aload_n dX12_saint_69 rfl 70 rfl ?_
          refine gf12_7 dX12_saint_70 73 rfl hk_l0 kw5_166 ?_
          refine x_iadd dX12_saint_73 74 rfl ?_
          refine x_iload_n dX12_saint_74 rfl 75 rfl ?_
          obtain ⟨hin, h⟩ := h
          refine x_iastore dX12_saint_75 (ly12_1 hk_l0) hin 76 rfl (x_mem (fun M6 hM6 => ?_))
          have h := h M6 hM6
          refine x_aload_n dX12_saint_76 rfl 77 rfl ?_
          refine gf12_1 dX12_saint_77 80 rfl hk_l0 kw5_160 ?_
          refine x_bipush dX12_saint_80 kb_35 82 rfl ?_
          refine x_aload_n dX12_saint_82 rfl 83 rfl ?_
          refine gf12_7 dX12_saint_83 86 rfl hk_l0 kw5_166 ?_
          refine x_iadd dX12_saint_86 87 rfl ?_
          refine x_iconst dX12_saint_87 kc_0 88 rfl ?_
          obtain ⟨hin, h⟩ := h
          refine x_iastore dX12_saint_88 (ly12_1 hk_l0) hin 89 rfl (x_mem (fun M7 hM7 => ?_))
          have h := h M7 hM7
          refine x_aload_n dX12_saint_89 rfl 90 rfl ?_
          refine gf12_1 dX12_saint_90 93 rfl hk_l0 kw5_160 ?_
          refine x_bipush dX12_saint_93 kb_49 95 rfl ?_
          refine x_aload_n dX12_saint_95 rfl 96 rfl ?_
          refine gf12_7 dX12_saint_96 99 rfl hk_l0 kw5_166 ?_
          refine x_iadd dX12_saint_99 100 rfl ?_
          refine x_iconst dX12_saint_100 kc_0 101 rfl ?_
          obtain ⟨hin, h⟩ := h
          refine x_iastore dX12_saint_101 (ly12_1 hk_l0) hin 102 rfl (x_mem (fun M8 hM8 => ?_))
          have h := h M8 hM8
          refine x_aload_n dX12_saint_102 rfl 103 rfl ?_
          refine gf12_8 dX12_saint_103 106 rfl hk_l0 kw5_167 ?_
          refine x_aload_n dX12_saint_106 rfl 107 rfl ?_
          refine gf12_7 dX12_saint_107 110 rfl hk_l0 kw5_166 ?_
          refine x_iload_n dX12_saint_110 rfl 111 rfl ?_
          obtain ⟨hin, h⟩ := h
          refine x_iastore dX12_saint_111 (ly12_8 hk_l0) hin 112 rfl (x_mem (fun M9 hM9 => ?_))
          have h := h M9 hM9
          refine x_aload_n dX12_saint_112 rfl 113 rfl ?_
          refine x_aload_n dX12_saint_113 rfl 114 rfl ?_
          refine gf12_7 dX12_saint_114 117 rfl hk_l0 kw5_166 ?_
          refine kX12_comesBehind dX12_saint_117 120 rfl hk_l0 kw6_110 (Nat.le_of_ble_eq_true rfl) (Nat.le_of_ble_eq_true rfl) h (fun M10 h => ?_)
          refine x_aload_n dX12_saint_120 rfl 121 rfl ?_
          refine x_aload_n dX12_saint_121 rfl 122 rfl ?_
          refine gf12_7 dX12_saint_122 125 rfl hk_l0 kw5_166 ?_
          refine x_iconst dX12_saint_125 kc_1 126 rfl ?_
          refine x_iadd dX12_saint_126 127 rfl ?_
          refine pf12_7 dX12_saint_127 130 rfl hk_l0 kw5_166 (x_mem (fun M11 hM11 => ?_))
          have h := h M11 hM11
          refine x_aload_n dX12_saint_130 rfl 131 rfl ?_
          refine kX12_allClimb dX12_saint_131 134 rfl hk_l0 kw6_86 (Nat.le_of_ble_eq_true rfl) (Nat.le_of_ble_eq_true rfl) h (fun M12 h => ?_)
          refine x_aload_n dX12_saint_134 rfl 135 rfl ?_
          refine x_iconst dX12_saint_135 kc_0 136 rfl ?_
          refine pf12_3 dX12_saint_136 139 rfl hk_l0 kw5_162 (x_mem (fun M13 hM13 => ?_))
          have h := h M13 hM13
          refine x_aload_n dX12_saint_139 rfl 140 rfl ?_
          refine gf12_7 dX12_saint_140 143 rfl hk_l0 kw5_166 ?_
          refine x_iconst dX12_saint_143 kc_1 144 rfl ?_
          refine x_isub dX12_saint_144 145 rfl ?_
          exact x_iret dX12_saint_145 h
        · have h := h.2 hc
          refine x_iconst dX12_saint_48 kc_m1 49 rfl ?_
          exact x_iret dX12_saint_49 h
theorem cX12_saint_ {Q : Int32 → Mem → Prop} {l0 : Nat} {l1 : Int32} {l2 : Int32} {l3 : Int32} {M : Mem} (hk_l0 : SHk l0 = 12) (h : FX12_saint Q l0 l1 l2 l3 M) : xM yX12_saint cX12_saint 4 (some .int) 4 [.ref l0, .int l1, .int l2, .int l3] M (xQi Q) := xM_of (by decide +kernel) (Nat.le_of_ble_eq_true rfl) (eX12_saint hk_l0 h)
theorem kX12_saint {own : String} {cc : ByteArray} {nL : Nat} {rt : Option FieldType} {d pc ix : Nat} {L : List (Nat × Value)} {st : List Value} {M : Mem} {Rt : xGt → Array Value → State → Outcome → State → Prop} {Q : Int32 → Mem → Prop} {l0 : Nat} {l1 : Int32} {l2 : Int32} {l3 : Int32} (hd : decode cc pc = .ok (.invokevirtual ix, 3)) (q : Nat) (hq : pc + 3 = q) (hk_l0 : SHk l0 = 12) (w1 : Cond.methodLink own ix yX12_saint ∈ xTs) (hr : 4 < d) (hst : (st.map fun v => v.category).sum ≤ 8) (h : FX12_saint Q l0 l1 l2 l3 M) (k : ∀ (r : Int32) (N : Mem), Q r N → xX own cc nL rt d q L (.int r :: st) N Rt) : xX own cc nL rt d pc L (.int l3 :: .int l2 :: .int l1 :: .ref l0 :: st) M Rt :=
  x_callV_i (n := 3) (As := [.int l1, .int l2, .int l3]) hd q hq hk_l0 (by decide) rfl rfl w1 kw6_107 kw6_108 kw1_14 kw6_109 (by decide +kernel) rfl hr (by decide) hst _ rfl (cX12_saint_ hk_l0 h) k
def NX12_canSet_87 (Q : Bool → Prop) (s0 : Nat) (s1 : Int32) (s2 : Int32) (s3 : Int32) (M : Mem) : Prop :=
  FX12_isIn (fun (r1 : Bool) => ((r1 = false → Q false) ∧ (r1 = true → Q true))) s0 s1 s2 s3 M
theorem nX12_canSet_87 {Q : Bool → Prop} {s0 : Nat} {s1 : Int32} {s2 : Int32} {s3 : Int32} {M : Mem} (hk_s0 : SHk s0 = 12) (h : NX12_canSet_87 Q s0 s1 s2 s3 M) : xX RX12 cX12_canSet 4 (some .boolean) 2 87 [] [.int s3, .int s2, .int s1, .ref s0] M (xQb (xP M Q)) := by
  unfold NX12_canSet_87 at h
  refine kX12_isIn dX12_canSet_87 90 rfl hk_s0 kw6_82 (Nat.le_of_ble_eq_true rfl) (Nat.le_of_ble_eq_true rfl) h (fun r1 h => ?_)
  refine x_if_eq_b dX12_canSet_90 97 93 rfl rfl (fun hc => ?_) (fun hc => ?_)
  · have h := h.1 hc
    refine x_iconst dX12_canSet_97 kc_0 98 rfl ?_
    exact x_zret (z := false) dX12_canSet_98 ⟨rfl, h⟩
  · have h := h.2 hc
    refine x_iconst dX12_canSet_93 kc_1 94 rfl ?_
    refine x_goto dX12_canSet_94 98 rfl ?_
    exact x_zret (z := true) dX12_canSet_98 ⟨rfl, h⟩
def FX12_canSet (Q : Bool → Prop) (l0 : Nat) (l1 : Int32) (l2 : Int32) (l3 : Int32) (M : Mem) : Prop :=
  ((¬ l1 = 4 → ((¬ l1 = 2 → FX12_isIn (fun (r2 : Bool) => ((r2 = false → Q false) ∧ (r2 = true → FX12_isSaint (fun (r3 : Bool) => ((r3 = false → Q false) ∧ (r3 = true → ((¬ l1 = 0 → ((¬ l1 = 1 → NX12_canSet_87 Q l0 l3 0 99 M) ∧ (l1 = 1 → NX12_canSet_87 Q l0 l3 0 9 M))) ∧ (l1 = 0 → NX12_canSet_87 Q l0 l3 0 120 M))))) l0 l2 M))) l0 l1 0 3 M) ∧ (l1 = 2 → FX12_isSaint (fun (r4 : Bool) => ((r4 = false → Q false) ∧ (r4 = true → FX12_isIn (fun (r5 : Bool) => ((r5 = false → Q false) ∧ (r5 = true → Q true))) l0 l3 (-99) 99 M))) l0 l2 M))) ∧ (l1 = 4 → FX12_isIn (fun (r6 : Bool) => Q r6) l0 l3 0 9 M))
theorem eX12_canSet {Q : Bool → Prop} {l0 : Nat} {l1 : Int32} {l2 : Int32} {l3 : Int32} {M : Mem} (hk_l0 : SHk l0 = 12) (h : FX12_canSet Q l0 l1 l2 l3 M) : xX RX12 cX12_canSet 4 (some .boolean) 2 0 [(0, .ref l0), (1, .int l1), (2, .int l2), (3, .int l3)] [] M (xQb (xP M Q)) := by
  unfold FX12_canSet at h
  refine x_iload_n dX12_canSet_0 rfl 1 rfl ?_
  refine x_iconst dX12_canSet_1 kc_4 2 rfl ?_
  refine x_icmp_ne dX12_canSet_2 14 5 rfl rfl (fun hc => ?_) (fun hc => ?_)
  · have h := h.1 hc
    refine x_iload_n dX12_canSet_14 rfl 15 rfl ?_
    refine x_iconst dX12_canSet_15 kc_2 16 rfl ?_
    refine x_icmp_ne dX12_canSet_16 45 19 rfl rfl (fun hc => ?_) (fun hc => ?_)
    · have h := h.1 hc
      refine x_aload_n dX12_canSet_45 rfl 46 rfl ?_
      refine x_iload_n dX12_canSet_46 rfl 47 rfl ?_
      refine x_iconst dX12_canSet_47 kc_0 48 rfl ?_
      refine x_iconst dX12_canSet_48 kc_3 49 rfl ?_
      refine kX12_isIn dX12_canSet_49 52 rfl hk_l0 kw6_82 (Nat.le_of_ble_eq_true rfl) (Nat.le_of_ble_eq_true rfl) h (fun r2 h => ?_)
      refine x_if_eq_b dX12_canSet_52 97 55 rfl rfl (fun hc => ?_) (fun hc => ?_)
      · have h := h.1 hc
        refine x_iconst dX12_canSet_97 kc_0 98 rfl ?_
        exact x_zret (z := false) dX12_canSet_98 ⟨rfl, h⟩
      · have h := h.2 hc
        refine x_aload_n dX12_canSet_55 rfl 56 rfl ?_
        refine x_iload_n dX12_canSet_56 rfl 57 rfl ?_
        refine kX12_isSaint dX12_canSet_57 60 rfl hk_l0 kw6_122 (Nat.le_of_ble_eq_true rfl) (Nat.le_of_ble_eq_true rfl) h (fun r3 h => ?_)
        refine x_if_eq_b dX12_canSet_60 97 63 rfl rfl (fun hc => ?_) (fun hc => ?_)
        · have h := h.1 hc
          refine x_iconst dX12_canSet_97 kc_0 98 rfl ?_
          exact x_zret (z := false) dX12_canSet_98 ⟨rfl, h⟩
        · have h := h.2 hc
          refine x_aload_n dX12_canSet_63 rfl 64 rfl ?_
          refine x_iload_n dX12_canSet_64 rfl 65 rfl ?_
          refine x_iconst dX12_canSet_65 kc_0 66 rfl ?_
          refine x_iload_n dX12_canSet_66 rfl 67 rfl ?_
          refine x_if_ne dX12_canSet_67 75 70 rfl rfl (fun hc => ?_) (fun hc => ?_)
          · have h := h.1 hc
            refine x_iload_n dX12_canSet_75 rfl 76 rfl ?_
            refine x_iconst dX12_canSet_76 kc_1 77 rfl ?_
            refine x_icmp_ne dX12_canSet_77 85 80 rfl rfl (fun hc => ?_) (fun hc => ?_)
            · have h := h.1 hc
              refine x_bipush dX12_canSet_85 kb_99 87 rfl ?_
              refine x_weak [] [] rfl ?_
              exact nX12_canSet_87 hk_l0 h
            · have h := h.2 hc
              refine x_bipush dX12_canSet_80 kb_9 82 rfl ?_
              refine x_goto dX12_canSet_82 87 rfl ?_
              refine x_weak [] [] rfl ?_
              exact nX12_canSet_87 hk_l0 h
          · have h := h.2 hc
            refine x_bipush dX12_canSet_70 kb_120 72 rfl ?_
            refine x_goto dX12_canSet_72 87 rfl ?_
            refine x_weak [] [] rfl ?_
            exact nX12_canSet_87 hk_l0 h
    · have h := h.2 hc
      refine x_aload_n dX12_canSet_19 rfl 20 rfl ?_
      refine x_iload_n dX12_canSet_20 rfl 21 rfl ?_
      refine kX12_isSaint dX12_canSet_21 24 rfl hk_l0 kw6_122 (Nat.le_of_ble_eq_true rfl) (Nat.le_of_ble_eq_true rfl) h (fun r4 h => ?_)
      refine x_if_eq_b dX12_canSet_24 43 27 rfl rfl (fun hc => ?_) (fun hc => ?_)
      · have h := h.1 hc
        refine x_iconst dX12_canSet_43 kc_0 44 rfl ?_
        exact x_zret (z := false) dX12_canSet_44 ⟨rfl, h⟩
      · have h := h.2 hc
        refine x_aload_n dX12_canSet_27 rfl 28 rfl ?_
        refine x_iload_n dX12_canSet_28 rfl 29 rfl ?_
        refine x_bipush dX12_canSet_29 kb_m99 31 rfl ?_
        refine x_bipush dX12_canSet_31 kb_99 33 rfl ?_
        refine kX12_isIn dX12_canSet_33 36 rfl hk_l0 kw6_82 (Nat.le_of_ble_eq_true rfl) (Nat.le_of_ble_eq_true rfl) h (fun r5 h => ?_)
        refine x_if_eq_b dX12_canSet_36 43 39 rfl rfl (fun hc => ?_) (fun hc => ?_)
        · have h := h.1 hc
          refine x_iconst dX12_canSet_43 kc_0 44 rfl ?_
          exact x_zret (z := false) dX12_canSet_44 ⟨rfl, h⟩
        · have h := h.2 hc
          refine x_iconst dX12_canSet_39 kc_1 40 rfl ?_
          refine x_goto dX12_canSet_40 44 rfl ?_
          exact x_zret (z := true) dX12_canSet_44 ⟨rfl, h⟩
  · have h := h.2 hc
    refine x_aload_n dX12_canSet_5 rfl 6 rfl ?_
    refine x_iload_n dX12_canSet_6 rfl 7 rfl ?_
    refine x_iconst dX12_canSet_7 kc_0 8 rfl ?_
    refine x_bipush dX12_canSet_8 kb_9 10 rfl ?_
    refine kX12_isIn dX12_canSet_10 13 rfl hk_l0 kw6_82 (Nat.le_of_ble_eq_true rfl) (Nat.le_of_ble_eq_true rfl) h (fun r6 h => ?_)
    exact x_zret dX12_canSet_13 ⟨rfl, h⟩
theorem cX12_canSet_ {Q : Bool → Prop} {l0 : Nat} {l1 : Int32} {l2 : Int32} {l3 : Int32} {M : Mem} (hk_l0 : SHk l0 = 12) (h : FX12_canSet Q l0 l1 l2 l3 M) : xM yX12_canSet cX12_canSet 4 (some .boolean) 2 [.ref l0, .int l1, .int l2, .int l3] M (xQb (xP M Q)) := xM_of (by decide +kernel) (Nat.le_of_ble_eq_true rfl) (eX12_canSet hk_l0 h)
theorem kX12_canSet {own : String} {cc : ByteArray} {nL : Nat} {rt : Option FieldType} {d pc ix : Nat} {L : List (Nat × Value)} {st : List Value} {M : Mem} {Rt : xGt → Array Value → State → Outcome → State → Prop} {Q : Bool → Prop} {l0 : Nat} {l1 : Int32} {l2 : Int32} {l3 : Int32} (hd : decode cc pc = .ok (.invokevirtual ix, 3)) (q : Nat) (hq : pc + 3 = q) (hk_l0 : SHk l0 = 12) (w1 : Cond.methodLink own ix yX12_canSet ∈ xTs) (hr : 2 < d) (hst : (st.map fun v => v.category).sum ≤ 8) (h : FX12_canSet Q l0 l1 l2 l3 M) (k : ∀ (r : Bool), Q r → xX own cc nL rt d q L (.int (bI r) :: st) M Rt) : xX own cc nL rt d pc L (.int l3 :: .int l2 :: .int l1 :: .ref l0 :: st) M Rt :=
  x_callV_b (n := 3) (As := [.int l1, .int l2, .int l3]) hd q hq hk_l0 (by decide) rfl rfl w1 kw6_120 ks3_8 kw1_14 kw6_121 (by decide +kernel) rfl hr (by decide) hst _ rfl (cX12_canSet_ hk_l0 h) (fun r N hN => by obtain ⟨rfl, hN⟩ := hN; exact k r hN)
def NX12_set_85 (Q : Bool → Mem → Prop) (l0 : Nat) (M : Mem) : Prop :=
  ∀ M1 : Mem, M1 = xu M l0 3 0 → Q true M1
theorem nX12_set_85 {Q : Bool → Mem → Prop} {l0 : Nat} {M : Mem} (hk_l0 : SHk l0 = 12) (h : NX12_set_85 Q l0 M) : xX RX12 cX12_set 4 (some .boolean) 3 85 [(0, .ref l0)] [] M (xQb Q) := by
  unfold NX12_set_85 at h
  refine x_aload_n dX12_set_85 rfl 86 rfl ?_
  refine x_iconst dX12_set_86 kc_0 87 rfl ?_
  refine pf12_3 dX12_set_87 90 rfl hk_l0 kw5_162 (x_mem (fun M1 hM1 => ?_))
  have h := h M1 hM1
  refine x_iconst dX12_set_90 kc_1 91 rfl ?_
  exact x_zret (z := true) dX12_set_91 h
def NX12_set_73 (Q : Bool → Mem → Prop) (l0 : Nat) (l1 : Int32) (l3 : Int32) (M : Mem) : Prop :=
  ((¬ l1 = 4 → NX12_set_85 Q l0 M) ∧ (l1 = 4 → ∀ M2 : Mem, M2 = xu M (l0 + 1) (5) l3 → NX12_set_85 Q l0 M2))
theorem nX12_set_73 {Q : Bool → Mem → Prop} {l0 : Nat} {l1 : Int32} {l3 : Int32} {M : Mem} (hk_l0 : SHk l0 = 12) (h : NX12_set_73 Q l0 l1 l3 M) : xX RX12 cX12_set 4 (some .boolean) 3 73 [(0, .ref l0), (1, .int l1), (3, .int l3)] [] M (xQb Q) := by
  unfold NX12_set_73 at h
  refine x_iload_n dX12_set_73 rfl 74 rfl ?_
  refine x_iconst dX12_set_74 kc_4 75 rfl ?_
  refine x_icmp_ne dX12_set_75 85 78 rfl rfl (fun hc => ?_) (fun hc => ?_)
  · have h := h.1 hc
    refine x_weak [(0, .ref l0)] [0] rfl ?_
    exact nX12_set_85 hk_l0 h
  · have h := h.2 hc
    refine x_aload_n dX12_set_78 rfl 79 rfl ?_
    refine gf12_1 dX12_set_79 82 rfl hk_l0 kw5_160 ?_
    refine x_iconst dX12_set_82 kc_5 83 rfl ?_
    refine x_iload_n dX12_set_83 rfl 84 rfl ?_
    refine x_iastore dX12_set_84 (ly12_1 hk_l0) (by unfold vp_in; decide) 85 rfl (x_mem (fun M2 hM2 => ?_))
    have h := h M2 hM2
    refine x_weak [(0, .ref l0)] [0] rfl ?_
    exact nX12_set_85 hk_l0 h
def NX12_set_58 (Q : Bool → Mem → Prop) (l0 : Nat) (l1 : Int32) (l2 : Int32) (l3 : Int32) (M : Mem) : Prop :=
  ((¬ l1 = 3 → NX12_set_73 Q l0 l1 l3 M) ∧ (l1 = 3 → vp_in (35 + l2) 107 ∧ ∀ M3 : Mem, M3 = xu M (l0 + 1) (ix (35 + l2)) l3 → NX12_set_73 Q l0 l1 l3 M3))
theorem nX12_set_58 {Q : Bool → Mem → Prop} {l0 : Nat} {l1 : Int32} {l2 : Int32} {l3 : Int32} {M : Mem} (hk_l0 : SHk l0 = 12) (h : NX12_set_58 Q l0 l1 l2 l3 M) : xX RX12 cX12_set 4 (some .boolean) 3 58 [(0, .ref l0), (1, .int l1), (2, .int l2), (3, .int l3)] [] M (xQb Q) := by
  unfold NX12_set_58 at h
  refine x_iload_n dX12_set_58 rfl 59 rfl ?_
  refine x_iconst dX12_set_59 kc_3 60 rfl ?_
  refine x_icmp_ne dX12_set_60 73 63 rfl rfl (fun hc => ?_) (fun hc => ?_)
  · have h := h.1 hc
    refine x_weak [(0, .ref l0), (1, .int l1), (3, .int l3)] [0, 1, 3] rfl ?_
    exact nX12_set_73 hk_l0 h
  · have h := h.2 hc
    refine x_aload_n dX12_set_63 rfl 64 rfl ?_
    refine gf12_1 dX12_set_64 67 rfl hk_l0 kw5_160 ?_
    refine x_bipush dX12_set_67 kb_35 69 rfl ?_
    refine x_iload_n dX12_set_69 rfl 70 rfl ?_
    refine x_iadd dX12_set_70 71 rfl ?_
    refine x_iload_n dX12_set_71 rfl 72 rfl ?_
    obtain ⟨hin, h⟩ := h
    refine x_iastore dX12_set_72 (ly12_1 hk_l0) hin 73 rfl (x_mem (fun M3 hM3 => ?_))
    have h := h M3 hM3
    refine x_weak [(0, .ref l0), (1, .int l1), (3, .int l3)] [0, 1, 3] rfl ?_
    exact nX12_set_73 hk_l0 h
def NX12_set_43 (Q : Bool → Mem → Prop) (l0 : Nat) (l1 : Int32) (l2 : Int32) (l3 : Int32) (M : Mem) : Prop :=
  ((¬ l1 = 2 → NX12_set_58 Q l0 l1 l2 l3 M) ∧ (l1 = 2 → vp_in (21 + l2) 107 ∧ ∀ M4 : Mem, M4 = xu M (l0 + 1) (ix (21 + l2)) l3 → NX12_set_58 Q l0 l1 l2 l3 M4))
theorem nX12_set_43 {Q : Bool → Mem → Prop} {l0 : Nat} {l1 : Int32} {l2 : Int32} {l3 : Int32} {M : Mem} (hk_l0 : SHk l0 = 12) (h : NX12_set_43 Q l0 l1 l2 l3 M) : xX RX12 cX12_set 4 (some .boolean) 3 43 [(0, .ref l0), (1, .int l1), (2, .int l2), (3, .int l3)] [] M (xQb Q) := by
  unfold NX12_set_43 at h
  refine x_iload_n dX12_set_43 rfl 44 rfl ?_
  refine x_iconst dX12_set_44 kc_2 45 rfl ?_
  refine x_icmp_ne dX12_set_45 58 48 rfl rfl (fun hc => ?_) (fun hc => ?_)
  · have h := h.1 hc
    exact nX12_set_58 hk_l0 h
  · have h := h.2 hc
    refine x_aload_n dX12_set_48 rfl 49 rfl ?_
    refine gf12_1 dX12_set_49 52 rfl hk_l0 kw5_160 ?_
    refine x_bipush dX12_set_52 kb_21 54 rfl ?_
    refine x_iload_n dX12_set_54 rfl 55 rfl ?_
    refine x_iadd dX12_set_55 56 rfl ?_
    refine x_iload_n dX12_set_56 rfl 57 rfl ?_
    obtain ⟨hin, h⟩ := h
    refine x_iastore dX12_set_57 (ly12_1 hk_l0) hin 58 rfl (x_mem (fun M4 hM4 => ?_))
    have h := h M4 hM4
    exact nX12_set_58 hk_l0 h
def NX12_set_31 (Q : Bool → Mem → Prop) (l0 : Nat) (l1 : Int32) (l2 : Int32) (l3 : Int32) (M : Mem) : Prop :=
  ((¬ l1 = 1 → NX12_set_43 Q l0 l1 l2 l3 M) ∧ (l1 = 1 → vp_in l2 14 ∧ ∀ M5 : Mem, M5 = xu M (l0 + 4) (ix l2) l3 → NX12_set_43 Q l0 l1 l2 l3 M5))
theorem nX12_set_31 {Q : Bool → Mem → Prop} {l0 : Nat} {l1 : Int32} {l2 : Int32} {l3 : Int32} {M : Mem} (hk_l0 : SHk l0 = 12) (h : NX12_set_31 Q l0 l1 l2 l3 M) : xX RX12 cX12_set 4 (some .boolean) 3 31 [(0, .ref l0), (1, .int l1), (2, .int l2), (3, .int l3)] [] M (xQb Q) := by
  unfold NX12_set_31 at h
  refine x_iload_n dX12_set_31 rfl 32 rfl ?_
  refine x_iconst dX12_set_32 kc_1 33 rfl ?_
  refine x_icmp_ne dX12_set_33 43 36 rfl rfl (fun hc => ?_) (fun hc => ?_)
  · have h := h.1 hc
    exact nX12_set_43 hk_l0 h
  · have h := h.2 hc
    refine x_aload_n dX12_set_36 rfl 37 rfl ?_
    refine gf12_8 dX12_set_37 40 rfl hk_l0 kw5_167 ?_
    refine x_iload_n dX12_set_40 rfl 41 rfl ?_
    refine x_iload_n dX12_set_41 rfl 42 rfl ?_
    obtain ⟨hin, h⟩ := h
    refine x_iastore dX12_set_42 (ly12_8 hk_l0) hin 43 rfl (x_mem (fun M5 hM5 => ?_))
    have h := h M5 hM5
    exact nX12_set_43 hk_l0 h
def FX12_set (Q : Bool → Mem → Prop) (l0 : Nat) (l1 : Int32) (l2 : Int32) (l3 : Int32) (M : Mem) : Prop :=
  ∀ M6 : Mem, M6 = xu M l0 0 0 → FX12_canSet (fun (r7 : Bool) => ((r7 = true → ((¬ l1 = 0 → NX12_set_31 Q l0 l1 l2 l3 M6) ∧ (l1 = 0 → vp_in (7 + l2) 107 ∧ ∀ M8 : Mem, M8 = xu M6 (l0 + 1) (ix (7 + l2)) l3 → NX12_set_31 Q l0 l1 l2 l3 M8))) ∧ (r7 = false → Q false M6))) l0 l1 l2 l3 M6
theorem eX12_set {Q : Bool → Mem → Prop} {l0 : Nat} {l1 : Int32} {l2 : Int32} {l3 : Int32} {M : Mem} (hk_l0 : SHk l0 = 12) (h : FX12_set Q l0 l1 l2 l3 M) : xX RX12 cX12_set 4 (some .boolean) 3 0 [(0, .ref l0), (1, .int l1), (2, .int l2), (3, .int l3)] [] M (xQb Q) := by
  unfold FX12_set at h
  refine x_aload_n dX12_set_0 rfl 1 rfl ?_
  refine x_iconst dX12_set_1 kc_0 2 rfl ?_
  refine pf12_0 dX12_set_2 5 rfl hk_l0 kw5_159 (x_mem (fun M6 hM6 => ?_))
  have h := h M6 hM6
  refine x_aload_n dX12_set_5 rfl 6 rfl ?_
  refine x_iload_n dX12_set_6 rfl 7 rfl ?_
  refine x_iload_n dX12_set_7 rfl 8 rfl ?_
  refine x_iload_n dX12_set_8 rfl 9 rfl ?_
  refine kX12_canSet dX12_set_9 12 rfl hk_l0 kw6_118 (Nat.le_of_ble_eq_true rfl) (Nat.le_of_ble_eq_true rfl) h (fun r7 h => ?_)
  refine x_if_ne_b dX12_set_12 17 15 rfl rfl (fun hc => ?_) (fun hc => ?_)
  · have h := h.1 hc
    refine x_iload_n dX12_set_17 rfl 18 rfl ?_
    refine x_if_ne dX12_set_18 31 21 rfl rfl (fun hc => ?_) (fun hc => ?_)
    · have h := h.1 hc
      exact nX12_set_31 hk_l0 h
    · have h := h.2 hc
      refine x_aload_n dX12_set_21 rfl 22 rfl ?_
      refine gf12_1 dX12_set_22 25 rfl hk_l0 kw5_160 ?_
      refine x_bipush dX12_set_25 kb_7 27 rfl ?_
      refine x_iload_n dX12_set_27 rfl 28 rfl ?_
      refine x_iadd dX12_set_28 29 rfl ?_
      refine x_iload_n dX12_set_29 rfl 30 rfl ?_
      obtain ⟨hin, h⟩ := h
      refine x_iastore dX12_set_30 (ly12_1 hk_l0) hin 31 rfl (x_mem (fun M8 hM8 => ?_))
      have h := h M8 hM8
      exact nX12_set_31 hk_l0 h
  · have h := h.2 hc
    refine x_iconst dX12_set_15 kc_0 16 rfl ?_
    exact x_zret (z := false) dX12_set_16 h
theorem cX12_set_ {Q : Bool → Mem → Prop} {l0 : Nat} {l1 : Int32} {l2 : Int32} {l3 : Int32} {M : Mem} (hk_l0 : SHk l0 = 12) (h : FX12_set Q l0 l1 l2 l3 M) : xM yX12_set cX12_set 4 (some .boolean) 3 [.ref l0, .int l1, .int l2, .int l3] M (xQb Q) := xM_of (by decide +kernel) (Nat.le_of_ble_eq_true rfl) (eX12_set hk_l0 h)
theorem kX12_set {own : String} {cc : ByteArray} {nL : Nat} {rt : Option FieldType} {d pc ix : Nat} {L : List (Nat × Value)} {st : List Value} {M : Mem} {Rt : xGt → Array Value → State → Outcome → State → Prop} {Q : Bool → Mem → Prop} {l0 : Nat} {l1 : Int32} {l2 : Int32} {l3 : Int32} (hd : decode cc pc = .ok (.invokevirtual ix, 3)) (q : Nat) (hq : pc + 3 = q) (hk_l0 : SHk l0 = 12) (w1 : Cond.methodLink own ix yX12_set ∈ xTs) (hr : 3 < d) (hst : (st.map fun v => v.category).sum ≤ 8) (h : FX12_set Q l0 l1 l2 l3 M) (k : ∀ (r : Bool) (N : Mem), Q r N → xX own cc nL rt d q L (.int (bI r) :: st) N Rt) : xX own cc nL rt d pc L (.int l3 :: .int l2 :: .int l1 :: .ref l0 :: st) M Rt :=
  x_callV_b (n := 3) (As := [.int l1, .int l2, .int l3]) hd q hq hk_l0 (by decide) rfl rfl w1 kw6_115 kw6_116 kw1_14 kw6_117 (by decide +kernel) rfl hr (by decide) hst _ rfl (cX12_set_ hk_l0 h) k
