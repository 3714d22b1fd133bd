def lbX12_types_3 (Q : Mem → Prop) (l0 : Nat) (l1 : Int32) (B3 : Int32 → Mem → Prop) (l2 : Int32) (M : Mem) : Prop :=
  ((l2 < 0 → Q M) ∧ (¬ l2 < 0 → vp_in (M l0 11) 400 ∧ ∀ M1 : Mem, M1 = xu M (l0 + 6) (ix (M l0 11)) ((l1 >>> (l2 &&& 31)) &&& 255) → ∀ M2 : Mem, M2 = xu M1 l0 11 ((M1 l0 11) + 1) → B3 (l2 + (-8)) M2))
def NX12_types_3 (Q : Mem → Prop) (l0 : Nat) (l1 : Int32) (l2 : Int32) (M : Mem) : Prop := xlp (fun (B : Int32 × Mem → Prop) a => lbX12_types_3 Q l0 l1 (fun l2 M => B (l2, M)) a.1 a.2) (l2, M)
theorem nX12_types_3 {Q : Mem → Prop} {l0 : Nat} {l1 : Int32} {l2 : Int32} {M : Mem} (hk_l0 : SHk l0 = 12) (h : NX12_types_3 Q l0 l1 l2 M) : xX RX12 cX12_types 3 none 1 3 [(0, .ref l0), (1, .int l1), (2, .int l2)] [] M (xQv Q) := by
  obtain ⟨n, h⟩ := h
  have hB3 : ∀ (n : Nat) (l2 : Int32) (M : Mem), xlpn (fun (B : Int32 × Mem → Prop) a => lbX12_types_3 Q l0 l1 (fun l2 M => B (l2, M)) a.1 a.2) n (l2, M) → xX RX12 cX12_types 3 none 1 3 [(0, .ref l0), (1, .int l1), (2, .int l2)] [] M (xQv Q) := by
    intro n
    induction n with
    | zero => intro l2 M h; exact False.elim h
    | succ n ih =>
      intro l2 M h
      have hB3 := ih
      have h : lbX12_types_3 Q l0 l1 (fun l2 M => xlpn (fun (B : Int32 × Mem → Prop) a => lbX12_types_3 Q l0 l1 (fun l2 M => B (l2, M)) a.1 a.2) n (l2, M)) l2 M := h
      unfold lbX12_types_3 at h
      refine x_iload_n dX12_types_3 rfl 4 rfl ?_
      refine x_if_lt dX12_types_4 39 7 rfl rfl (fun hc => ?_) (fun hc => ?_)
      · have h := h.1 hc
        exact x_vret dX12_types_39 h
      · have h := h.2 hc
        refine x_aload_n dX12_types_7 rfl 8 rfl ?_
        refine gf12_10 dX12_types_8 11 rfl hk_l0 kw5_169 ?_
        refine x_aload_n dX12_types_11 rfl 12 rfl ?_
        refine gf12_11 dX12_types_12 15 rfl hk_l0 kw5_170 ?_
        refine x_iload_n dX12_types_15 rfl 16 rfl ?_
        refine x_iload_n dX12_types_16 rfl 17 rfl ?_
        refine x_ishr dX12_types_17 18 rfl ?_
        refine x_sipush dX12_types_18 kh_255 21 rfl ?_
        refine x_iand dX12_types_21 22 rfl ?_
        obtain ⟨hin, h⟩ := h
        refine x_iastore dX12_types_22 (ly12_10 hk_l0) hin 23 rfl (x_mem (fun M1 hM1 => ?_))
        have h := h M1 hM1
        refine x_aload_n dX12_types_23 rfl 24 rfl ?_
        refine x_aload_n dX12_types_24 rfl 25 rfl ?_
        refine gf12_11 dX12_types_25 28 rfl hk_l0 kw5_170 ?_
        refine x_iconst dX12_types_28 kc_1 29 rfl ?_
        refine x_iadd dX12_types_29 30 rfl ?_
        refine pf12_11 dX12_types_30 33 rfl hk_l0 kw5_170 (x_mem (fun M2 hM2 => ?_))
        have h := h M2 hM2
        refine x_iinc dX12_types_33 rfl (congrArg (l2 + ·) kc_m8) (Nat.le_of_ble_eq_true rfl) [(0, .ref l0), (1, .int l1), (2, .int (l2 + (-8)))] rfl 36 rfl ?_
        refine x_goto dX12_types_36 3 rfl ?_
        exact hB3 _ _ h
  exact hB3 n l2 M h
def FX12_types (Q : Mem → Prop) (l0 : Nat) (l1 : Int32) (M : Mem) : Prop :=
  NX12_types_3 Q l0 l1 24 M
theorem eX12_types {Q : Mem → Prop} {l0 : Nat} {l1 : Int32} {M : Mem} (hk_l0 : SHk l0 = 12) (h : FX12_types Q l0 l1 M) : xX RX12 cX12_types 3 none 1 0 [(0, .ref l0), (1, .int l1)] [] M (xQv Q) := by
  unfold FX12_types at h
  refine x_bipush dX12_types_0 kb_24 2 rfl ?_
  refine x_istore_n dX12_types_2 (Nat.le_of_ble_eq_true rfl) [(0, .ref l0), (1, .int l1), (2, .int 24)] rfl 3 rfl ?_
  exact nX12_types_3 hk_l0 h
theorem cX12_types_ {Q : Mem → Prop} {l0 : Nat} {l1 : Int32} {M : Mem} (hk_l0 : SHk l0 = 12) (h : FX12_types Q l0 l1 M) : xM yX12_types cX12_types 3 none 1 [.ref l0, .int l1] M (xQv Q) := xM_of (by decide +kernel) (Nat.le_of_ble_eq_true rfl) (eX12_types hk_l0 h)
theorem kX12_types {own : String} {cc : ByteArray} {nL : Nat} {rt : Option FieldType} {d pc ix : Nat} {L : List (Nat × Value)} {st : List Value} {M : Mem} {Rt : xGt → Array Value → State → Outcome → State → Prop} {Q : Mem → Prop} {l0 : Nat} {l1 : Int32} (hd : decode cc pc = .ok (.invokevirtual ix, 3)) (q : Nat) (hq : pc + 3 = q) (hk_l0 : SHk l0 = 12) (w1 : Cond.methodLink own ix yX12_types ∈ xTs) (hr : 1 < d) (hst : (st.map fun v => v.category).sum ≤ 8) (h : FX12_types Q l0 l1 M) (k : ∀ (N : Mem), Q N → xX own cc nL rt d q L st N Rt) : xX own cc nL rt d pc L (.int l1 :: .ref l0 :: st) M Rt :=
  x_callV_v (n := 1) (As := [.int l1]) hd q hq hk_l0 (by decide) rfl rfl w1 kw6_132 ks3_10 kw1_14 kw6_133 (by decide +kernel) rfl hr (by decide) hst _ rfl (cX12_types_ hk_l0 h) k
def FX12_feed (Q : Int32 → Mem → Prop) (l0 : Nat) (l1 : Int32) (l2 : Int32) (l3 : Int32) (l4 : Int32) (l5 : Int32) (M : Mem) : Prop :=
  ∀ M1 : Mem, M1 = xu M l0 0 0 → (((M1 l0 11) ≤ 380 → FX12_types (fun (M2 : Mem) => FX12_types (fun (M3 : Mem) => FX12_types (fun (M4 : Mem) => FX12_types (fun (M5 : Mem) => FX12_types (fun (M6 : Mem) => Q (M6 l0 11) M6) l0 l5 M5) l0 l4 M4) l0 l3 M3) l0 l2 M2) l0 l1 M1) ∧ (¬ (M1 l0 11) ≤ 380 → Q (-1) M1))
theorem eX12_feed {Q : Int32 → Mem → Prop} {l0 : Nat} {l1 : Int32} {l2 : Int32} {l3 : Int32} {l4 : Int32} {l5 : Int32} {M : Mem} (hk_l0 : SHk l0 = 12) (h : FX12_feed Q l0 l1 l2 l3 l4 l5 M) : xX RX12 cX12_feed 6 (some .int) 2 0 [(0, .ref l0), (1, .int l1), (2, .int l2), (3, .int l3), (4, .int l4), (5, .int l5)] [] M (xQi Q) := by
  unfold FX12_feed at h
  refine x_aload_n dX12_feed_0 rfl 1 rfl ?_
  refine x_iconst dX12_feed_1 kc_0 2 rfl ?_
  refine pf12_0 dX12_feed_2 5 rfl hk_l0 kw5_159 (x_mem (fun M1 hM1 => ?_))
  have h := h M1 hM1
  refine x_aload_n dX12_feed_5 rfl 6 rfl ?_
  refine gf12_11 dX12_feed_6 9 rfl hk_l0 kw5_170 ?_
  refine x_sipush dX12_feed_9 kh_380 12 rfl ?_
  refine x_icmp_le dX12_feed_12 17 15 rfl rfl (fun hc => ?_) (fun hc => ?_)
  · have h := h.1 hc
    refine x_aload_n dX12_feed_17 rfl 18 rfl ?_
    refine x_iload_n dX12_feed_18 rfl 19 rfl ?_
    refine kX12_types dX12_feed_19 22 rfl hk_l0 kw6_130 (Nat.le_of_ble_eq_true rfl) (Nat.le_of_ble_eq_true rfl) h (fun M2 h => ?_)
    refine x_aload_n dX12_feed_22 rfl 23 rfl ?_
    refine x_iload_n dX12_feed_23 rfl 24 rfl ?_
    refine kX12_types dX12_feed_24 27 rfl hk_l0 kw6_130 (Nat.le_of_ble_eq_true rfl) (Nat.le_of_ble_eq_true rfl) h (fun M3 h => ?_)
    refine x_aload_n dX12_feed_27 rfl 28 rfl ?_
    refine x_iload_n dX12_feed_28 rfl 29 rfl ?_
    refine kX12_types dX12_feed_29 32 rfl hk_l0 kw6_130 (Nat.le_of_ble_eq_true rfl) (Nat.le_of_ble_eq_true rfl) h (fun M4 h => ?_)
    refine x_aload_n dX12_feed_32 rfl 33 rfl ?_
    refine x_iload dX12_feed_33 rfl 35 rfl ?_
    refine kX12_types dX12_feed_35 38 rfl hk_l0 kw6_130 (Nat.le_of_ble_eq_true rfl) (Nat.le_of_ble_eq_true rfl) h (fun M5 h => ?_)
    refine x_aload_n dX12_feed_38 rfl 39 rfl ?_
    refine x_iload dX12_feed_39 rfl 41 rfl ?_
    refine kX12_types dX12_feed_41 44 rfl hk_l0 kw6_130 (Nat.le_of_ble_eq_true rfl) (Nat.le_of_ble_eq_true rfl) h (fun M6 h => ?_)
    refine x_aload_n dX12_feed_44 rfl 45 rfl ?_
    refine gf12_11 dX12_feed_45 48 rfl hk_l0 kw5_170 ?_
    exact x_iret dX12_feed_48 h
  · have h := h.2 hc
    refine x_iconst dX12_feed_15 kc_m1 16 rfl ?_
    exact x_iret dX12_feed_16 h
theorem cX12_feed_ {Q : Int32 → Mem → Prop} {l0 : Nat} {l1 : Int32} {l2 : Int32} {l3 : Int32} {l4 : Int32} {l5 : Int32} {M : Mem} (hk_l0 : SHk l0 = 12) (h : FX12_feed Q l0 l1 l2 l3 l4 l5 M) : xM yX12_feed cX12_feed 6 (some .int) 2 [.ref l0, .int l1, .int l2, .int l3, .int l4, .int l5] M (xQi Q) := xM_of (by decide +kernel) (Nat.le_of_ble_eq_true rfl) (eX12_feed hk_l0 h)
theorem kX12_feed {own : String} {cc : ByteArray} {nL : Nat} {rt : Option FieldType} {d pc ix : Nat} {L : List (Nat × Value)} {st : List Value} {M : Mem} {Rt : xGt → Array Value → State → Outcome → State → Prop} {Q : Int32 → Mem → Prop} {l0 : Nat} {l1 : Int32} {l2 : Int32} {l3 : Int32} {l4 : Int32} {l5 : Int32} (hd : decode cc pc = .ok (.invokevirtual ix, 3)) (q : Nat) (hq : pc + 3 = q) (hk_l0 : SHk l0 = 12) (w1 : Cond.methodLink own ix yX12_feed ∈ xTs) (hr : 2 < d) (hst : (st.map fun v => v.category).sum ≤ 8) (h : FX12_feed Q l0 l1 l2 l3 l4 l5 M) (k : ∀ (r : Int32) (N : Mem), Q r N → xX own cc nL rt d q L (.int r :: st) N Rt) : xX own cc nL rt d pc L (.int l5 :: .int l4 :: .int l3 :: .int l2 :: .int l1 :: .ref l0 :: st) M Rt :=
  x_callV_i (n := 5) (As := [.int l1, .int l2, .int l3, .int l4, .int l5]) hd q hq hk_l0 (by decide) rfl rfl w1 kw6_127 kw6_128 kw1_14 kw6_129 (by decide +kernel) rfl hr (by decide) hst _ rfl (cX12_feed_ hk_l0 h) k
def FX12_end (Q : Bool → Mem → Prop) (l0 : Nat) (l1 : Int32) (M : Mem) : Prop :=
  ∀ M1 : Mem, M1 = xu M l0 0 0 → FX12_isIn (fun (r2 : Bool) => ((r2 = true → ∀ M3 : Mem, M3 = xu M1 l0 11 l1 → Q true M3) ∧ (r2 = false → Q false M1))) l0 l1 0 (M1 l0 11) M1
theorem eX12_end {Q : Bool → Mem → Prop} {l0 : Nat} {l1 : Int32} {M : Mem} (hk_l0 : SHk l0 = 12) (h : FX12_end Q l0 l1 M) : xX RX12 cX12_end 2 (some .boolean) 2 0 [(0, .ref l0), (1, .int l1)] [] M (xQb Q) := by
  unfold FX12_end at h
  refine x_aload_n dX12_end_0 rfl 1 rfl ?_
  refine x_iconst dX12_end_1 kc_0 2 rfl ?_
  refine pf12_0 dX12_end_2 5 rfl hk_l0 kw5_159 (x_mem (fun M1 hM1 => ?_))
  have h := h M1 hM1
  refine x_aload_n dX12_end_5 rfl 6 rfl ?_
  refine x_iload_n dX12_end_6 rfl 7 rfl ?_
  refine x_iconst dX12_end_7 kc_0 8 rfl ?_
  refine x_aload_n dX12_end_8 rfl 9 rfl ?_
  refine gf12_11 dX12_end_9 12 rfl hk_l0 kw5_170 ?_
  refine kX12_isIn dX12_end_12 15 rfl hk_l0 kw6_82 (Nat.le_of_ble_eq_true rfl) (Nat.le_of_ble_eq_true rfl) h (fun r2 h => ?_)
  refine x_if_ne_b dX12_end_15 20 18 rfl rfl (fun hc => ?_) (fun hc => ?_)
  · have h := h.1 hc
    refine x_aload_n dX12_end_20 rfl 21 rfl ?_
    refine x_iload_n dX12_end_21 rfl 22 rfl ?_
    refine pf12_11 dX12_end_22 25 rfl hk_l0 kw5_170 (x_mem (fun M3 hM3 => ?_))
    have h := h M3 hM3
    refine x_iconst dX12_end_25 kc_1 26 rfl ?_
    exact x_zret (z := true) dX12_end_26 h
  · have h := h.2 hc
    refine x_iconst dX12_end_18 kc_0 19 rfl ?_
    exact x_zret (z := false) dX12_end_19 h
theorem cX12_end_ {Q : Bool → Mem → Prop} {l0 : Nat} {l1 : Int32} {M : Mem} (hk_l0 : SHk l0 = 12) (h : FX12_end Q l0 l1 M) : xM yX12_end cX12_end 2 (some .boolean) 2 [.ref l0, .int l1] M (xQb Q) := xM_of (by decide +kernel) (Nat.le_of_ble_eq_true rfl) (eX12_end hk_l0 h)
theorem kX12_end {own : String} {cc : ByteArray} {nL : Nat} {rt : Option FieldType} {d pc ix : Nat} {L : List (Nat × Value)} {st : List Value} {M : Mem} {Rt : xGt → Array Value → State → Outcome → State → Prop} {Q : Bool → Mem → Prop} {l0 : Nat} {l1 : Int32} (hd : decode cc pc = .ok (.invokevirtual ix, 3)) (q : Nat) (hq : pc + 3 = q) (hk_l0 : SHk l0 = 12) (w1 : Cond.methodLink own ix yX12_end ∈ xTs) (hr : 2 < d) (hst : (st.map fun v => v.category).sum ≤ 8) (h : FX12_end Q l0 l1 M) (k : ∀ (r : Bool) (N : Mem), Q r N → xX own cc nL rt d q L (.int (bI r) :: st) N Rt) : xX own cc nL rt d pc L (.int l1 :: .ref l0 :: st) M Rt :=
  x_callV_b (n := 1) (As := [.int l1]) hd q hq hk_l0 (by decide) rfl rfl w1 kw6_135 kw6_136 kw1_14 kw6_137 (by decide +kernel) rfl hr (by decide) hst _ rfl (cX12_end_ hk_l0 h) k
def FX12_raw (Q : Int32 → Prop) (l0 : Nat) (l1 : Int32) (M : Mem) : Prop :=
  (((M l0 11) ≤ l1 → Q (-1)) ∧ (¬ (M l0 11) ≤ l1 → vp_in l1 400 ∧ Q (M (l0 + 6) (ix l1))))
theorem eX12_raw {Q : Int32 → Prop} {l0 : Nat} {l1 : Int32} {M : Mem} (hk_l0 : SHk l0 = 12) (h : FX12_raw Q l0 l1 M) : xX RX12 cX12_raw 2 (some .int) 1 0 [(0, .ref l0), (1, .int l1)] [] M (xQi (xP M Q)) := by
  unfold FX12_raw at h
  refine x_iload_n dX12_raw_0 rfl 1 rfl ?_
  refine x_aload_n dX12_raw_1 rfl 2 rfl ?_
  refine gf12_11 dX12_raw_2 5 rfl hk_l0 kw5_170 ?_
  refine x_icmp_ge dX12_raw_5 17 8 rfl rfl (fun hc => ?_) (fun hc => ?_)
  · have h := h.1 hc
    refine x_iconst dX12_raw_17 kc_m1 18 rfl ?_
    exact x_iret dX12_raw_18 ⟨rfl, h⟩
  · have h := h.2 hc
    refine x_aload_n dX12_raw_8 rfl 9 rfl ?_
    refine gf12_10 dX12_raw_9 12 rfl hk_l0 kw5_169 ?_
    refine x_iload_n dX12_raw_12 rfl 13 rfl ?_
    obtain ⟨hin, h⟩ := h
    refine x_iaload dX12_raw_13 (ly12_10 hk_l0) hin 14 rfl ?_
    refine x_goto dX12_raw_14 18 rfl ?_
    exact x_iret dX12_raw_18 ⟨rfl, h⟩
theorem cX12_raw_ {Q : Int32 → Prop} {l0 : Nat} {l1 : Int32} {M : Mem} (hk_l0 : SHk l0 = 12) (h : FX12_raw Q l0 l1 M) : xM yX12_raw cX12_raw 2 (some .int) 1 [.ref l0, .int l1] M (xQi (xP M Q)) := xM_of (by decide +kernel) (Nat.le_of_ble_eq_true rfl) (eX12_raw hk_l0 h)
theorem kX12_raw {own : String} {cc : ByteArray} {nL : Nat} {rt : Option FieldType} {d pc ix : Nat} {L : List (Nat × Value)} {st : List Value} {M : Mem} {Rt : xGt → Array Value → State → Outcome → State → Prop} {Q : Int32 → Prop} {l0 : Nat} {l1 : Int32} (hd : decode cc pc = .ok (.invokevirtual ix, 3)) (q : Nat) (hq : pc + 3 = q) (hk_l0 : SHk l0 = 12) (w1 : Cond.methodLink own ix yX12_raw ∈ xTs) (hr : 1 < d) (hst : (st.map fun v => v.category).sum ≤ 8) (h : FX12_raw Q l0 l1 M) (k : ∀ (r : Int32), Q r → xX own cc nL rt d q L (.int r :: st) M Rt) : xX own cc nL rt d pc L (.int l1 :: .ref l0 :: st) M Rt :=
  x_callV_i (n := 1) (As := [.int l1]) hd q hq hk_l0 (by decide) rfl rfl w1 kw6_152 ks3_13 kw1_14 kw6_153 (by decide +kernel) rfl hr (by decide) hst _ rfl (cX12_raw_ hk_l0 h) (fun r N hN => by obtain ⟨rfl, hN⟩ := hN; exact k r hN)
def FX12_isLetter (Q : Bool → Prop) (l0 : Nat) (l1 : Int32) (M : Mem) : Prop :=
  FX12_isIn (fun (r1 : Bool) => ((r1 = true → Q true) ∧ (r1 = false → FX12_isIn (fun (r2 : Bool) => ((r2 = false → Q false) ∧ (r2 = true → Q true))) l0 l1 65 90 M))) l0 l1 97 122 M
theorem eX12_isLetter {Q : Bool → Prop} {l0 : Nat} {l1 : Int32} {M : Mem} (hk_l0 : SHk l0 = 12) (h : FX12_isLetter Q l0 l1 M) : xX RX12 cX12_isLetter 2 (some .boolean) 2 0 [(0, .ref l0), (1, .int l1)] [] M (xQb (xP M Q)) := by
  unfold FX12_isLetter at h
  refine x_aload_n dX12_isLetter_0 rfl 1 rfl ?_
  refine x_iload_n dX12_isLetter_1 rfl 2 rfl ?_
  refine x_bipush dX12_isLetter_2 kb_97 4 rfl ?_
  refine x_bipush dX12_isLetter_4 kb_122 6 rfl ?_
  refine kX12_isIn dX12_isLetter_6 9 rfl hk_l0 kw6_82 (Nat.le_of_ble_eq_true rfl) (Nat.le_of_ble_eq_true rfl) h (fun r1 h => ?_)
  refine x_if_ne_b dX12_isLetter_9 24 12 rfl rfl (fun hc => ?_) (fun hc => ?_)
  · have h := h.1 hc
    refine x_iconst dX12_isLetter_24 kc_1 25 rfl ?_
    refine x_goto dX12_isLetter_25 29 rfl ?_
    exact x_zret (z := true) dX12_isLetter_29 ⟨rfl, h⟩
  · have h := h.2 hc
    refine x_aload_n dX12_isLetter_12 rfl 13 rfl ?_
    refine x_iload_n dX12_isLetter_13 rfl 14 rfl ?_
    refine x_bipush dX12_isLetter_14 kb_65 16 rfl ?_
    refine x_bipush dX12_isLetter_16 kb_90 18 rfl ?_
    refine kX12_isIn dX12_isLetter_18 21 rfl hk_l0 kw6_82 (Nat.le_of_ble_eq_true rfl) (Nat.le_of_ble_eq_true rfl) h (fun r2 h => ?_)
    refine x_if_eq_b dX12_isLetter_21 28 24 rfl rfl (fun hc => ?_) (fun hc => ?_)
    · have h := h.1 hc
      refine x_iconst dX12_isLetter_28 kc_0 29 rfl ?_
      exact x_zret (z := false) dX12_isLetter_29 ⟨rfl, h⟩
    · have h := h.2 hc
      refine x_iconst dX12_isLetter_24 kc_1 25 rfl ?_
      refine x_goto dX12_isLetter_25 29 rfl ?_
      exact x_zret (z := true) dX12_isLetter_29 ⟨rfl, h⟩
theorem cX12_isLetter_ {Q : Bool → Prop} {l0 : Nat} {l1 : Int32} {M : Mem} (hk_l0 : SHk l0 = 12) (h : FX12_isLetter Q l0 l1 M) : xM yX12_isLetter cX12_isLetter 2 (some .boolean) 2 [.ref l0, .int l1] M (xQb (xP M Q)) := xM_of (by decide +kernel) (Nat.le_of_ble_eq_true rfl) (eX12_isLetter hk_l0 h)
theorem kX12_isLetter {own : String} {cc : ByteArray} {nL : Nat} {rt : Option FieldType} {d pc ix : Nat} {L : List (Nat × Value)} {st : List Value} {M : Mem} {Rt : xGt → Array Value → State → Outcome → State → Prop} {Q : Bool → Prop} {l0 : Nat} {l1 : Int32} (hd : decode cc pc = .ok (.invokevirtual ix, 3)) (q : Nat) (hq : pc + 3 = q) (hk_l0 : SHk l0 = 12) (w1 : Cond.methodLink own ix yX12_isLetter ∈ xTs) (hr : 2 < d) (hst : (st.map fun v => v.category).sum ≤ 8) (h : FX12_isLetter Q l0 l1 M) (k : ∀ (r : Bool), Q r → xX own cc nL rt d q L (.int (bI r) :: st) M Rt) : xX own cc nL rt d pc L (.int l1 :: .ref l0 :: st) M Rt :=
  x_callV_b (n := 1) (As := [.int l1]) hd q hq hk_l0 (by decide) rfl rfl w1 kw6_156 ks3_14 kw1_14 kw6_157 (by decide +kernel) rfl hr (by decide) hst _ rfl (cX12_isLetter_ hk_l0 h) (fun r N hN => by obtain ⟨rfl, hN⟩ := hN; exact k r hN)
def FX12_isDigit (Q : Bool → Prop) (l0 : Nat) (l1 : Int32) (M : Mem) : Prop :=
  FX12_isIn (fun (r1 : Bool) => Q r1) l0 l1 48 57 M
theorem eX12_isDigit {Q : Bool → Prop} {l0 : Nat} {l1 : Int32} {M : Mem} (hk_l0 : SHk l0 = 12) (h : FX12_isDigit Q l0 l1 M) : xX RX12 cX12_isDigit 2 (some .boolean) 2 0 [(0, .ref l0), (1, .int l1)] [] M (xQb (xP M Q)) := by
  unfold FX12_isDigit at h
  refine x_aload_n dX12_isDigit_0 rfl 1 rfl ?_
  refine x_iload_n dX12_isDigit_1 rfl 2 rfl ?_
  refine x_bipush dX12_isDigit_2 kb_48 4 rfl ?_
  refine x_bipush dX12_isDigit_4 kb_57 6 rfl ?_
  refine kX12_isIn dX12_isDigit_6 9 rfl hk_l0 kw6_82 (Nat.le_of_ble_eq_true rfl) (Nat.le_of_ble_eq_true rfl) h (fun r1 h => ?_)
  exact x_zret dX12_isDigit_9 ⟨rfl, h⟩
theorem cX12_isDigit_ {Q : Bool → Prop} {l0 : Nat} {l1 : Int32} {M : Mem} (hk_l0 : SHk l0 = 12) (h : FX12_isDigit Q l0 l1 M) : xM yX12_isDigit cX12_isDigit 2 (some .boolean) 2 [.ref l0, .int l1] M (xQb (xP M Q)) := xM_of (by decide +kernel) (Nat.le_of_ble_eq_true rfl) (eX12_isDigit hk_l0 h)
theorem kX12_isDigit {own : String} {cc : ByteArray} {nL : Nat} {rt : Option FieldType} {d pc ix : Nat} {L : List (Nat × Value)} {st : List Value} {M : Mem} {Rt : xGt → Array Value → State → Outcome → State → Prop} {Q : Bool → Prop} {l0 : Nat} {l1 : Int32} (hd : decode cc pc = .ok (.invokevirtual ix, 3)) (q : Nat) (hq : pc + 3 = q) (hk_l0 : SHk l0 = 12) (w1 : Cond.methodLink own ix yX12_isDigit ∈ xTs) (hr : 2 < d) (hst : (st.map fun v => v.category).sum ≤ 8) (h : FX12_isDigit Q l0 l1 M) (k : ∀ (r : Bool), Q r → xX own cc nL rt d q L (.int (bI r) :: st) M Rt) : xX own cc nL rt d pc L (.int l1 :: .ref l0 :: st) M Rt :=
  x_callV_b (n := 1) (As := [.int l1]) hd q hq hk_l0 (by decide) rfl rfl w1 kw6_164 ks4_0 kw1_14 kw6_165 (by decide +kernel) rfl hr (by decide) hst _ rfl (cX12_isDigit_ hk_l0 h) (fun r N hN => by obtain ⟨rfl, hN⟩ := hN; exact k r hN)
def FX12_isMarkSign (Q : Bool → Prop) (l0 : Nat) (l1 : Int32) (M : Mem) : Prop :=
  ((l1 = 59 → Q true) ∧ (¬ l1 = 59 → ((l1 = 43 → Q true) ∧ (¬ l1 = 43 → ((l1 = 45 → Q true) ∧ (¬ l1 = 45 → ((l1 = 42 → Q true) ∧ (¬ l1 = 42 → ((l1 = 47 → Q true) ∧ (¬ l1 = 47 → ((l1 = 40 → Q true) ∧ (¬ l1 = 40 → ((l1 = 41 → Q true) ∧ (¬ l1 = 41 → ((l1 = 60 → Q true) ∧ (¬ l1 = 60 → ((l1 = 61 → Q true) ∧ (¬ l1 = 61 → ((¬ l1 = 62 → Q false) ∧ (l1 = 62 → Q true))))))))))))))))))))
theorem eX12_isMarkSign {Q : Bool → Prop} {l0 : Nat} {l1 : Int32} {M : Mem} (hk_l0 : SHk l0 = 12) (h : FX12_isMarkSign Q l0 l1 M) : xX RX12 cX12_isMarkSign 2 (some .boolean) 1 0 [(0, .ref l0), (1, .int l1)] [] M (xQb (xP M Q)) := by
  unfold FX12_isMarkSign at h
  refine x_iload_n dX12_isMarkSign_0 rfl 1 rfl ?_
  refine x_bipush dX12_isMarkSign_1 kb_59 3 rfl ?_
  refine x_icmp_eq dX12_isMarkSign_3 60 6 rfl rfl (fun hc => ?_) (fun hc => ?_)
  · have h := h.1 hc
    refine x_iconst dX12_isMarkSign_60 kc_1 61 rfl ?_
    refine x_goto dX12_isMarkSign_61 65 rfl ?_
    exact x_zret (z := true) dX12_isMarkSign_65 ⟨rfl, h⟩
  · have h := h.2 hc
    refine x_iload_n dX12_isMarkSign_6 rfl 7 rfl ?_
    refine x_bipush dX12_isMarkSign_7 kb_43 9 rfl ?_
    refine x_icmp_eq dX12_isMarkSign_9 60 12 rfl rfl (fun hc => ?_) (fun hc => ?_)
    · have h := h.1 hc
      refine x_iconst dX12_isMarkSign_60 kc_1 61 rfl ?_
      refine x_goto dX12_isMarkSign_61 65 rfl ?_
      exact x_zret (z := true) dX12_isMarkSign_65 ⟨rfl, h⟩
    · have h := h.2 hc
      refine x_iload_n dX12_isMarkSign_12 rfl 13 rfl ?_
      refine x_bipush dX12_isMarkSign_13 kb_45 15 rfl ?_
      refine x_icmp_eq dX12_isMarkSign_15 60 18 rfl rfl (fun hc => ?_) (fun hc => ?_)
      · have h := h.1 hc
        refine x_iconst dX12_isMarkSign_60 kc_1 61 rfl ?_
        refine x_goto dX12_isMarkSign_61 65 rfl ?_
        exact x_zret (z := true) dX12_isMarkSign_65 ⟨rfl, h⟩
      · have h := h.2 hc
        refine x_iload_n dX12_isMarkSign_18 rfl 19 rfl ?_
        refine x_bipush dX12_isMarkSign_19 kb_42 21 rfl ?_
        refine x_icmp_eq dX12_isMarkSign_21 60 24 rfl rfl (fun hc => ?_) (fun hc => ?_)
        · have h := h.1 hc
          refine x_iconst dX12_isMarkSign_60 kc_1 61 rfl ?_
          refine x_goto dX12_isMarkSign_61 65 rfl ?_
          exact x_zret (z := true) dX12_isMarkSign_65 ⟨rfl, h⟩
        · have h := h.2 hc
          refine x_iload_n dX12_isMarkSign_24 rfl 25 rfl ?_
          refine x_bipush dX12_isMarkSign_25 kb_47 27 rfl ?_
          refine x_icmp_eq dX12_isMarkSign_27 60 30 rfl rfl (fun hc => ?_) (fun hc => ?_)
          · have h := h.1 hc
            refine x_iconst dX12_isMarkSign_60 kc_1 61 rfl ?_
            refine x_goto dX12_isMarkSign_61 65 rfl ?_
            exact x_zret (z := true) dX12_isMarkSign_65 ⟨rfl, h⟩
          · have h := h.2 hc
            refine x_iload_n dX12_isMarkSign_30 rfl 31 rfl ?_
            refine x_bipush dX12_isMarkSign_31 kb_40 33 rfl ?_
            refine x_icmp_eq dX12_isMarkSign_33 60 36 rfl rfl (fun hc => ?_) (fun hc => ?_)
            · have h := h.1 hc
              refine x_iconst dX12_isMarkSign_60 kc_1 61 rfl ?_
              refine x_goto dX12_isMarkSign_61 65 rfl ?_
              exact x_zret (z := true) dX12_isMarkSign_65 ⟨rfl, h⟩
            · have h := h.2 hc
              refine x_iload_n dX12_isMarkSign_36 rfl 37 rfl ?_
              refine x_bipush dX12_isMarkSign_37 kb_41 39 rfl ?_
              refine x_icmp_eq dX12_isMarkSign_39 60 42 rfl rfl (fun hc => ?_) (fun hc => ?_)
              · have h := h.1 hc
                refine x_iconst dX12_isMarkSign_60 kc_1 61 rfl ?_
                refine x_goto dX12_isMarkSign_61 65 rfl ?_
                exact x_zret (z := true) dX12_isMarkSign_65 ⟨rfl, h⟩
              · have h := h.2 hc
                refine x_iload_n dX12_isMarkSign_42 rfl 43 rfl ?_
                refine x_bipush dX12_isMarkSign_43 kb_60 45 rfl ?_
                refine x_icmp_eq dX12_isMarkSign_45 60 48 rfl rfl (fun hc => ?_) (fun hc => ?_)
                · have h := h.1 hc
                  refine x_iconst dX12_isMarkSign_60 kc_1 61 rfl ?_
                  refine x_goto dX12_isMarkSign_61 65 rfl ?_
                  exact x_zret (z := true) dX12_isMarkSign_65 ⟨rfl, h⟩
                · have h := h.2 hc
                  refine x_iload_n dX12_isMarkSign_48 rfl 49 rfl ?_
                  refine x_bipush dX12_isMarkSign_49 kb_61 51 rfl ?_
                  refine x_icmp_eq dX12_isMarkSign_51 60 54 rfl rfl (fun hc => ?_) (fun hc => ?_)
                  · have h := h.1 hc
                    refine x_iconst dX12_isMarkSign_60 kc_1 61 rfl ?_
                    refine x_goto dX12_isMarkSign_61 65 rfl ?_
                    exact x_zret (z := true) dX12_isMarkSign_65 ⟨rfl, h⟩
                  · have h := h.2 hc
                    refine x_iload_n dX12_isMarkSign_54 rfl 55 rfl ?_
                    refine x_bipush dX12_isMarkSign_55 kb_62 57 rfl ?_
                    refine x_icmp_ne dX12_isMarkSign_57 64 60 rfl rfl (fun hc => ?_) (fun hc => ?_)
                    · have h := h.1 hc
                      refine x_iconst dX12_isMarkSign_64 kc_0 65 rfl ?_
                      exact x_zret (z := false) dX12_isMarkSign_65 ⟨rfl, h⟩
                    · have h := h.2 hc
                      refine x_iconst dX12_isMarkSign_60 kc_1 61 rfl ?_
                      refine x_goto dX12_isMarkSign_61 65 rfl ?_
                      exact x_zret (z := true) dX12_isMarkSign_65 ⟨rfl, h⟩
theorem cX12_isMarkSign_ {Q : Bool → Prop} {l0 : Nat} {l1 : Int32} {M : Mem} (hk_l0 : SHk l0 = 12) (h : FX12_isMarkSign Q l0 l1 M) : xM yX12_isMarkSign cX12_isMarkSign 2 (some .boolean) 1 [.ref l0, .int l1] M (xQb (xP M Q)) := xM_of (by decide +kernel) (Nat.le_of_ble_eq_true rfl) (eX12_isMarkSign hk_l0 h)
theorem kX12_isMarkSign {own : String} {cc : ByteArray} {nL : Nat} {rt : Option FieldType} {d pc ix : Nat} {L : List (Nat × Value)} {st : List Value} {M : Mem} {Rt : xGt → Array Value → State → Outcome → State → Prop} {Q : Bool → Prop} {l0 : Nat} {l1 : Int32} (hd : decode cc pc = .ok (.invokevirtual ix, 3)) (q : Nat) (hq : pc + 3 = q) (hk_l0 : SHk l0 = 12) (w1 : Cond.methodLink own ix yX12_isMarkSign ∈ xTs) (hr : 1 < d) (hst : (st.map fun v => v.category).sum ≤ 8) (h : FX12_isMarkSign Q l0 l1 M) (k : ∀ (r : Bool), Q r → xX own cc nL rt d q L (.int (bI r) :: st) M Rt) : xX own cc nL rt d pc L (.int l1 :: .ref l0 :: st) M Rt :=
  x_callV_b (n := 1) (As := [.int l1]) hd q hq hk_l0 (by decide) rfl rfl w1 kw6_168 ks4_1 kw1_14 kw6_169 (by decide +kernel) rfl hr (by decide) hst _ rfl (cX12_isMarkSign_ hk_l0 h) (fun r N hN => by obtain ⟨rfl, hN⟩ := hN; exact k r hN)
def lbX12_wordAt_93 (Q : Int32 → Prop) (B5 : Int32 → Int32 → Prop) (l0 : Nat) (l1 : Int32) (l2 : Int32) (l3 : Int32) (M : Mem) (B93 : Int32 → Prop) (l4 : Int32) : Prop :=
  vp_in l4 125 ∧ (((M (l0 + 7) (ix l4)) = 32 → B5 l3 l4) ∧ (¬ (M (l0 + 7) (ix l4)) = 32 → B93 (l4 + 1)))
def NX12_wordAt_93 (Q : Int32 → Prop) (B5 : Int32 → Int32 → Prop) (l0 : Nat) (l1 : Int32) (l2 : Int32) (l3 : Int32) (l4 : Int32) (M : Mem) : Prop := xlp (fun (B : Int32 → Prop) a => lbX12_wordAt_93 Q B5 l0 l1 l2 l3 M (fun l4 => B (l4)) a) (l4)
theorem nX12_wordAt_93 {Q : Int32 → Prop} {B5 : Int32 → Int32 → Prop} {l0 : Nat} {l1 : Int32} {l2 : Int32} {l3 : Int32} {l4 : Int32} {M : Mem} (hB5 : ∀ (l3 : Int32) (l4 : Int32), B5 l3 l4 → xX RX12 cX12_wordAt 6 (some .int) 1 5 [(0, .ref l0), (1, .int l1), (2, .int l2), (3, .int l3), (4, .int l4)] [] M (xQi (xP M Q))) (hk_l0 : SHk l0 = 12) (h : NX12_wordAt_93 Q B5 l0 l1 l2 l3 l4 M) : xX RX12 cX12_wordAt 6 (some .int) 1 93 [(0, .ref l0), (1, .int l1), (2, .int l2), (3, .int l3), (4, .int l4)] [] M (xQi (xP M Q)) := by
  obtain ⟨n, h⟩ := h
  have hB93 : ∀ (n : Nat) (l4 : Int32), xlpn (fun (B : Int32 → Prop) a => lbX12_wordAt_93 Q B5 l0 l1 l2 l3 M (fun l4 => B (l4)) a) n (l4) → xX RX12 cX12_wordAt 6 (some .int) 1 93 [(0, .ref l0), (1, .int l1), (2, .int l2), (3, .int l3), (4, .int l4)] [] M (xQi (xP M Q)) := by
    intro n
    induction n with
    | zero => intro l4 h; exact False.elim h
    | succ n ih =>
      intro l4 h
      have hB93 := ih
      have h : lbX12_wordAt_93 Q B5 l0 l1 l2 l3 M (fun l4 => xlpn (fun (B : Int32 → Prop) a => lbX12_wordAt_93 Q B5 l0 l1 l2 l3 M (fun l4 => B (l4)) a) n (l4)) l4 := h
      unfold lbX12_wordAt_93 at h
      refine x_aload_n dX12_wordAt_93 rfl 94 rfl ?_
      refine gf12_16 dX12_wordAt_94 97 rfl hk_l0 kw5_175 ?_
      refine x_iload dX12_wordAt_97 rfl 99 rfl ?_
      obtain ⟨hin, h⟩ := h
      refine x_iaload dX12_wordAt_99 (ly12_16 hk_l0) hin 100 rfl ?_
      refine x_bipush dX12_wordAt_100 kb_32 102 rfl ?_
      refine x_icmp_eq dX12_wordAt_102 114 105 rfl rfl (fun hc => ?_) (fun hc => ?_)
      · have h := h.1 hc
        refine x_goto dX12_wordAt_114 5 rfl ?_
        exact hB5 _ _ h
      · have h := h.2 hc
        refine x_iload dX12_wordAt_105 rfl 107 rfl ?_
        refine x_iconst dX12_wordAt_107 kc_1 108 rfl ?_
        refine x_iadd dX12_wordAt_108 109 rfl ?_
        refine x_istore dX12_wordAt_109 (Nat.le_of_ble_eq_true rfl) [(0, .ref l0), (1, .int l1), (2, .int l2), (3, .int l3), (4, .int (l4 + 1))] rfl 111 rfl ?_
        refine x_goto dX12_wordAt_111 93 rfl ?_
        exact hB93 _ h
  exact hB93 n l4 h
def NX12_wordAt_60 (Q : Int32 → Prop) (B5 : Int32 → Int32 → Prop) (l0 : Nat) (l1 : Int32) (l2 : Int32) (l3 : Int32) (l4 : Int32) (l5 : Int32) (M : Mem) : Prop :=
  ((¬ (l1 + l5) = l2 → NX12_wordAt_93 Q B5 l0 l1 l2 l3 (l4 + 1) M) ∧ ((l1 + l5) = l2 → vp_in ((l4 + 1) + l5) 125 ∧ ((¬ (M (l0 + 7) (ix ((l4 + 1) + l5))) = 32 → NX12_wordAt_93 Q B5 l0 l1 l2 l3 (l4 + 1) M) ∧ ((M (l0 + 7) (ix ((l4 + 1) + l5))) = 32 → Q l3))))
theorem nX12_wordAt_60 {Q : Int32 → Prop} {B5 : Int32 → Int32 → Prop} {l0 : Nat} {l1 : Int32} {l2 : Int32} {l3 : Int32} {l4 : Int32} {l5 : Int32} {M : Mem} (hB5 : ∀ (l3 : Int32) (l4 : Int32), B5 l3 l4 → xX RX12 cX12_wordAt 6 (some .int) 1 5 [(0, .ref l0), (1, .int l1), (2, .int l2), (3, .int l3), (4, .int l4)] [] M (xQi (xP M Q))) (hk_l0 : SHk l0 = 12) (h : NX12_wordAt_60 Q B5 l0 l1 l2 l3 l4 l5 M) : xX RX12 cX12_wordAt 6 (some .int) 1 60 [(0, .ref l0), (1, .int l1), (2, .int l2), (3, .int l3), (4, .int l4), (5, .int l5)] [] M (xQi (xP M Q)) := by
  unfold NX12_wordAt_60 at h
  refine x_iload_n dX12_wordAt_60 rfl 61 rfl ?_
  refine x_iload dX12_wordAt_61 rfl 63 rfl ?_
  refine x_iadd dX12_wordAt_63 64 rfl ?_
  refine x_iload_n dX12_wordAt_64 rfl 65 rfl ?_
  refine x_icmp_ne dX12_wordAt_65 87 68 rfl rfl (fun hc => ?_) (fun hc => ?_)
  · have h := h.1 hc
    refine x_iload dX12_wordAt_87 rfl 89 rfl ?_
    refine x_iconst dX12_wordAt_89 kc_1 90 rfl ?_
    refine x_iadd dX12_wordAt_90 91 rfl ?_
    refine x_istore dX12_wordAt_91 (Nat.le_of_ble_eq_true rfl) [(0, .ref l0), (1, .int l1), (2, .int l2), (3, .int l3), (4, .int (l4 + 1)), (5, .int l5)] rfl 93 rfl ?_
    refine x_weak [(0, .ref l0), (1, .int l1), (2, .int l2), (3, .int l3), (4, .int (l4 + 1))] [0, 1, 2, 3, 4] rfl ?_
    exact nX12_wordAt_93 hB5 hk_l0 h
  · have h := h.2 hc
    refine x_aload_n dX12_wordAt_68 rfl 69 rfl ?_
    refine gf12_16 dX12_wordAt_69 72 rfl hk_l0 kw5_175 ?_
    refine x_iload dX12_wordAt_72 rfl 74 rfl ?_
    refine x_iconst dX12_wordAt_74 kc_1 75 rfl ?_
    refine x_iadd dX12_wordAt_75 76 rfl ?_
    refine x_iload dX12_wordAt_76 rfl 78 rfl ?_
    refine x_iadd dX12_wordAt_78 79 rfl ?_
    obtain ⟨hin, h⟩ := h
    refine x_iaload dX12_wordAt_79 (ly12_16 hk_l0) hin 80 rfl ?_
    refine x_bipush dX12_wordAt_80 kb_32 82 rfl ?_
    refine x_icmp_ne dX12_wordAt_82 87 85 rfl rfl (fun hc => ?_) (fun hc => ?_)
    · have h := h.1 hc
      refine x_iload dX12_wordAt_87 rfl 89 rfl ?_
      refine x_iconst dX12_wordAt_89 kc_1 90 rfl ?_
      refine x_iadd dX12_wordAt_90 91 rfl ?_
      refine x_istore dX12_wordAt_91 (Nat.le_of_ble_eq_true rfl) [(0, .ref l0), (1, .int l1), (2, .int l2), (3, .int l3), (4, .int (l4 + 1)), (5, .int l5)] rfl 93 rfl ?_
      refine x_weak [(0, .ref l0), (1, .int l1), (2, .int l2), (3, .int l3), (4, .int (l4 + 1))] [0, 1, 2, 3, 4] rfl ?_
      exact nX12_wordAt_93 hB5 hk_l0 h
    · have h := h.2 hc
      refine x_iload_n dX12_wordAt_85 rfl 86 rfl ?_
      exact x_iret dX12_wordAt_86 ⟨rfl, h⟩
def lbX12_wordAt_19 (Q : Int32 → Prop) (B5 : Int32 → Int32 → Prop) (l0 : Nat) (l1 : Int32) (l2 : Int32) (l3 : Int32) (l4 : Int32) (M : Mem) (B19 : Int32 → Prop) (l5 : Int32) : Prop :=
  ((l2 ≤ (l1 + l5) → NX12_wordAt_60 Q B5 l0 l1 l2 l3 l4 l5 M) ∧ (¬ l2 ≤ (l1 + l5) → vp_in ((l4 + 1) + l5) 125 ∧ vp_in (l1 + l5) 400 ∧ ((¬ (M (l0 + 7) (ix ((l4 + 1) + l5))) = (M (l0 + 6) (ix (l1 + l5))) → NX12_wordAt_60 Q B5 l0 l1 l2 l3 l4 l5 M) ∧ ((M (l0 + 7) (ix ((l4 + 1) + l5))) = (M (l0 + 6) (ix (l1 + l5))) → B19 (l5 + 1)))))
def NX12_wordAt_19 (Q : Int32 → Prop) (B5 : Int32 → Int32 → Prop) (l0 : Nat) (l1 : Int32) (l2 : Int32) (l3 : Int32) (l4 : Int32) (l5 : Int32) (M : Mem) : Prop := xlp (fun (B : Int32 → Prop) a => lbX12_wordAt_19 Q B5 l0 l1 l2 l3 l4 M (fun l5 => B (l5)) a) (l5)
theorem nX12_wordAt_19 {Q : Int32 → Prop} {B5 : Int32 → Int32 → Prop} {l0 : Nat} {l1 : Int32} {l2 : Int32} {l3 : Int32} {l4 : Int32} {l5 : Int32} {M : Mem} (hB5 : ∀ (l3 : Int32) (l4 : Int32), B5 l3 l4 → xX RX12 cX12_wordAt 6 (some .int) 1 5 [(0, .ref l0), (1, .int l1), (2, .int l2), (3, .int l3), (4, .int l4)] [] M (xQi (xP M Q))) (hk_l0 : SHk l0 = 12) (h : NX12_wordAt_19 Q B5 l0 l1 l2 l3 l4 l5 M) : xX RX12 cX12_wordAt 6 (some .int) 1 19 [(0, .ref l0), (1, .int l1), (2, .int l2), (3, .int l3), (4, .int l4), (5, .int l5)] [] M (xQi (xP M Q)) := by
  obtain ⟨n, h⟩ := h
  have hB19 : ∀ (n : Nat) (l5 : Int32), xlpn (fun (B : Int32 → Prop) a => lbX12_wordAt_19 Q B5 l0 l1 l2 l3 l4 M (fun l5 => B (l5)) a) n (l5) → xX RX12 cX12_wordAt 6 (some .int) 1 19 [(0, .ref l0), (1, .int l1), (2, .int l2), (3, .int l3), (4, .int l4), (5, .int l5)] [] M (xQi (xP M Q)) := by
    intro n
    induction n with
    | zero => intro l5 h; exact False.elim h
    | succ n ih =>
      intro l5 h
      have hB19 := ih
      have h : lbX12_wordAt_19 Q B5 l0 l1 l2 l3 l4 M (fun l5 => xlpn (fun (B : Int32 → Prop) a => lbX12_wordAt_19 Q B5 l0 l1 l2 l3 l4 M (fun l5 => B (l5)) a) n (l5)) l5 := h
      unfold lbX12_wordAt_19 at h
      refine x_iload_n dX12_wordAt_19 rfl 20 rfl ?_
      refine x_iload dX12_wordAt_20 rfl 22 rfl ?_
      refine x_iadd dX12_wordAt_22 23 rfl ?_
      refine x_iload_n dX12_wordAt_23 rfl 24 rfl ?_
      refine x_icmp_ge dX12_wordAt_24 60 27 rfl rfl (fun hc => ?_) (fun hc => ?_)
      · have h := h.1 hc
        exact nX12_wordAt_60 hB5 hk_l0 h
      · have h := h.2 hc
        refine x_aload_n dX12_wordAt_27 rfl 28 rfl ?_
        refine gf12_16 dX12_wordAt_28 31 rfl hk_l0 kw5_175 ?_
        refine x_iload dX12_wordAt_31 rfl 33 rfl ?_
        refine x_iconst dX12_wordAt_33 kc_1 34 rfl ?_
        refine x_iadd dX12_wordAt_34 35 rfl ?_
        refine x_iload dX12_wordAt_35 rfl 37 rfl ?_
        refine x_iadd dX12_wordAt_37 38 rfl ?_
        obtain ⟨hin, h⟩ := h
        refine x_iaload dX12_wordAt_38 (ly12_16 hk_l0) hin 39 rfl ?_
        refine x_aload_n dX12_wordAt_39 rfl 40 rfl ?_
        refine gf12_10 dX12_wordAt_40 43 rfl hk_l0 kw5_169 ?_
        refine x_iload_n dX12_wordAt_43 rfl 44 rfl ?_
        refine x_iload dX12_wordAt_44 rfl 46 rfl ?_
        refine x_iadd dX12_wordAt_46 47 rfl ?_
        obtain ⟨hin, h⟩ := h
        refine x_iaload dX12_wordAt_47 (ly12_10 hk_l0) hin 48 rfl ?_
        refine x_icmp_ne dX12_wordAt_48 60 51 rfl rfl (fun hc => ?_) (fun hc => ?_)
        · have h := h.1 hc
          exact nX12_wordAt_60 hB5 hk_l0 h
        · have h := h.2 hc
          refine x_iload dX12_wordAt_51 rfl 53 rfl ?_
          refine x_iconst dX12_wordAt_53 kc_1 54 rfl ?_
          refine x_iadd dX12_wordAt_54 55 rfl ?_
          refine x_istore dX12_wordAt_55 (Nat.le_of_ble_eq_true rfl) [(0, .ref l0), (1, .int l1), (2, .int l2), (3, .int l3), (4, .int l4), (5, .int (l5 + 1))] rfl 57 rfl ?_
          refine x_goto dX12_wordAt_57 19 rfl ?_
          exact hB19 _ h
  exact hB19 n l5 h
def lbX12_wordAt_5 (Q : Int32 → Prop) (l0 : Nat) (l1 : Int32) (l2 : Int32) (M : Mem) (B5 : Int32 → Int32 → Prop) (l3 : Int32) (l4 : Int32) : Prop :=
  ((124 ≤ l4 → Q (-1)) ∧ (¬ 124 ≤ l4 → NX12_wordAt_19 Q B5 l0 l1 l2 (l3 + 1) l4 0 M))
def NX12_wordAt_5 (Q : Int32 → Prop) (l0 : Nat) (l1 : Int32) (l2 : Int32) (l3 : Int32) (l4 : Int32) (M : Mem) : Prop := xlp (fun (B : Int32 × Int32 → Prop) a => lbX12_wordAt_5 Q l0 l1 l2 M (fun l3 l4 => B (l3, l4)) a.1 a.2) (l3, l4)
theorem nX12_wordAt_5 {Q : Int32 → Prop} {l0 : Nat} {l1 : Int32} {l2 : Int32} {l3 : Int32} {l4 : Int32} {M : Mem} (hk_l0 : SHk l0 = 12) (h : NX12_wordAt_5 Q l0 l1 l2 l3 l4 M) : xX RX12 cX12_wordAt 6 (some .int) 1 5 [(0, .ref l0), (1, .int l1), (2, .int l2), (3, .int l3), (4, .int l4)] [] M (xQi (xP M Q)) := by
  obtain ⟨n, h⟩ := h
  have hB5 : ∀ (n : Nat) (l3 : Int32) (l4 : Int32), xlpn (fun (B : Int32 × Int32 → Prop) a => lbX12_wordAt_5 Q l0 l1 l2 M (fun l3 l4 => B (l3, l4)) a.1 a.2) n (l3, l4) → xX RX12 cX12_wordAt 6 (some .int) 1 5 [(0, .ref l0), (1, .int l1), (2, .int l2), (3, .int l3), (4, .int l4)] [] M (xQi (xP M Q)) := by
    intro n
    induction n with
    | zero => intro l3 l4 h; exact False.elim h
    | succ n ih =>
      intro l3 l4 h
      have hB5 := ih
      have h : lbX12_wordAt_5 Q l0 l1 l2 M (fun l3 l4 => xlpn (fun (B : Int32 × Int32 → Prop) a => lbX12_wordAt_5 Q l0 l1 l2 M (fun l3 l4 => B (l3, l4)) a.1 a.2) n (l3, l4)) l3 l4 := h
      unfold lbX12_wordAt_5 at h
      refine x_iload dX12_wordAt_5 rfl 7 rfl ?_
      refine x_bipush dX12_wordAt_7 kb_124 9 rfl ?_
      refine x_icmp_ge dX12_wordAt_9 117 12 rfl rfl (fun hc => ?_) (fun hc => ?_)
      · have h := h.1 hc
        refine x_iconst dX12_wordAt_117 kc_m1 118 rfl ?_
        exact x_iret dX12_wordAt_118 ⟨rfl, h⟩
      · have h := h.2 hc
        refine x_iconst dX12_wordAt_12 kc_0 13 rfl ?_
        refine x_istore dX12_wordAt_13 (Nat.le_of_ble_eq_true rfl) [(0, .ref l0), (1, .int l1), (2, .int l2), (3, .int l3), (4, .int l4), (5, .int 0)] rfl 15 rfl ?_
        refine x_iload_n dX12_wordAt_15 rfl 16 rfl ?_
        refine x_iconst dX12_wordAt_16 kc_1 17 rfl ?_
        refine x_iadd dX12_wordAt_17 18 rfl ?_
        refine x_istore_n dX12_wordAt_18 (Nat.le_of_ble_eq_true rfl) [(0, .ref l0), (1, .int l1), (2, .int l2), (3, .int (l3 + 1)), (4, .int l4), (5, .int 0)] rfl 19 rfl ?_
        exact nX12_wordAt_19 hB5 hk_l0 h
  exact hB5 n l3 l4 h
def FX12_wordAt (Q : Int32 → Prop) (l0 : Nat) (l1 : Int32) (l2 : Int32) (M : Mem) : Prop :=
  NX12_wordAt_5 Q l0 l1 l2 (-1) 0 M
theorem eX12_wordAt {Q : Int32 → Prop} {l0 : Nat} {l1 : Int32} {l2 : Int32} {M : Mem} (hk_l0 : SHk l0 = 12) (h : FX12_wordAt Q l0 l1 l2 M) : xX RX12 cX12_wordAt 6 (some .int) 1 0 [(0, .ref l0), (1, .int l1), (2, .int l2)] [] M (xQi (xP M Q)) := by
  unfold FX12_wordAt at h
  refine x_iconst dX12_wordAt_0 kc_m1 1 rfl ?_
  refine x_istore_n dX12_wordAt_1 (Nat.le_of_ble_eq_true rfl) [(0, .ref l0), (1, .int l1), (2, .int l2), (3, .int (-1))] rfl 2 rfl ?_
  refine x_iconst dX12_wordAt_2 kc_0 3 rfl ?_
  refine x_istore dX12_wordAt_3 (Nat.le_of_ble_eq_true rfl) [(0, .ref l0), (1, .int l1), (2, .int l2), (3, .int (-1)), (4, .int 0)] rfl 5 rfl ?_
  exact nX12_wordAt_5 hk_l0 h
theorem cX12_wordAt_ {Q : Int32 → Prop} {l0 : Nat} {l1 : Int32} {l2 : Int32} {M : Mem} (hk_l0 : SHk l0 = 12) (h : FX12_wordAt Q l0 l1 l2 M) : xM yX12_wordAt cX12_wordAt 6 (some .int) 1 [.ref l0, .int l1, .int l2] M (xQi (xP M Q)) := xM_of (by decide +kernel) (Nat.le_of_ble_eq_true rfl) (eX12_wordAt hk_l0 h)
theorem kX12_wordAt {own : String} {cc : ByteArray} {nL : Nat} {rt : Option FieldType} {d pc ix : Nat} {L : List (Nat × Value)} {st : List Value} {M : Mem} {Rt : xGt → Array Value → State → Outcome → State → Prop} {Q : Int32 → Prop} {l0 : Nat} {l1 : Int32} {l2 : Int32} (hd : decode cc pc = .ok (.invokevirtual ix, 3)) (q : Nat) (hq : pc + 3 = q) (hk_l0 : SHk l0 = 12) (w1 : Cond.methodLink own ix yX12_wordAt ∈ xTs) (hr : 1 < d) (hst : (st.map fun v => v.category).sum ≤ 8) (h : FX12_wordAt Q l0 l1 l2 M) (k : ∀ (r : Int32), Q r → xX own cc nL rt d q L (.int r :: st) M Rt) : xX own cc nL rt d pc L (.int l2 :: .int l1 :: .ref l0 :: st) M Rt :=
  x_callV_i (n := 2) (As := [.int l1, .int l2]) hd q hq hk_l0 (by decide) rfl rfl w1 kw6_160 ks3_15 kw1_14 kw6_161 (by decide +kernel) rfl hr (by decide) hst _ rfl (cX12_wordAt_ hk_l0 h) (fun r N hN => by obtain ⟨rfl, hN⟩ := hN; exact k r hN)
def NX12_reads_26 (Q : Mem → Prop) (B0 : Mem → Prop) (l0 : Nat) (M : Mem) : Prop :=
  ∀ M1 : Mem, M1 = xu M l0 12 ((M l0 12) + 1) → B0 M1
theorem nX12_reads_26 {Q : Mem → Prop} {B0 : Mem → Prop} {l0 : Nat} {M : Mem} (hB0 : ∀ (M : Mem), B0 M → xX RX12 cX12_reads 2 none 3 0 [(0, .ref l0)] [] M (xQv Q)) (hk_l0 : SHk l0 = 12) (h : NX12_reads_26 Q B0 l0 M) : xX RX12 cX12_reads 2 none 3 26 [(0, .ref l0)] [] M (xQv Q) := by
  unfold NX12_reads_26 at h
  refine x_aload_n dX12_reads_26 rfl 27 rfl ?_
  refine x_aload_n dX12_reads_27 rfl 28 rfl ?_
  refine gf12_12 dX12_reads_28 31 rfl hk_l0 kw5_171 ?_
  refine x_iconst dX12_reads_31 kc_1 32 rfl ?_
  refine x_iadd dX12_reads_32 33 rfl ?_
  refine pf12_12 dX12_reads_33 36 rfl hk_l0 kw5_171 (x_mem (fun M1 hM1 => ?_))
  have h := h M1 hM1
  refine x_goto dX12_reads_36 0 rfl ?_
  exact hB0 _ h
def lbX12_reads_95 (Q : Mem → Prop) (l0 : Nat) (B95 : Mem → Prop) (M : Mem) : Prop :=
  FX12_raw (fun (r2 : Int32) => FX12_isLetter (fun (r3 : Bool) => ((r3 = false → FX12_wordAt (fun (r4 : Int32) => ∀ M5 : Mem, M5 = xu M l0 15 r4 → (((M5 l0 15) = (-1) → Q M5) ∧ (¬ (M5 l0 15) = (-1) → ∀ M6 : Mem, M6 = xu M5 l0 14 2 → Q M6))) l0 (M l0 13) (M l0 12) M) ∧ (r3 = true → ∀ M7 : Mem, M7 = xu M l0 12 ((M l0 12) + 1) → B95 M7))) l0 r2 M) l0 (M l0 12) M
def NX12_reads_95 (Q : Mem → Prop) (l0 : Nat) (M : Mem) : Prop := xlp (fun (B : Mem → Prop) a => lbX12_reads_95 Q l0 (fun M => B (M)) a) (M)
theorem nX12_reads_95 {Q : Mem → Prop} {l0 : Nat} {M : Mem} (hk_l0 : SHk l0 = 12) (h : NX12_reads_95 Q l0 M) : xX RX12 cX12_reads 2 none 3 95 [(0, .ref l0)] [] M (xQv Q) := by
  obtain ⟨n, h⟩ := h
  have hB95 : ∀ (n : Nat) (M : Mem), xlpn (fun (B : Mem → Prop) a => lbX12_reads_95 Q l0 (fun M => B (M)) a) n (M) → xX RX12 cX12_reads 2 none 3 95 [(0, .ref l0)] [] M (xQv Q) := by
    intro n
    induction n with
    | zero => intro M h; exact False.elim h
    | succ n ih =>
      intro M h
      have hB95 := ih
      have h : lbX12_reads_95 Q l0 (fun M => xlpn (fun (B : Mem → Prop) a => lbX12_reads_95 Q l0 (fun M => B (M)) a) n (M)) M := h
      unfold lbX12_reads_95 at h
      refine x_aload_n dX12_reads_95 rfl 96 rfl ?_
      refine x_aload_n dX12_reads_96 rfl 97 rfl ?_
      refine x_aload_n dX12_reads_97 rfl 98 rfl ?_
      refine gf12_12 dX12_reads_98 101 rfl hk_l0 kw5_171 ?_
      refine kX12_raw dX12_reads_101 104 rfl hk_l0 kw6_150 (Nat.le_of_ble_eq_true rfl) (Nat.le_of_ble_eq_true rfl) h (fun r2 h => ?_)
      refine kX12_isLetter dX12_reads_104 107 rfl hk_l0 kw6_154 (Nat.le_of_ble_eq_true rfl) (Nat.le_of_ble_eq_true rfl) h (fun r3 h => ?_)
      refine x_if_eq_b dX12_reads_107 123 110 rfl rfl (fun hc => ?_) (fun hc => ?_)
      · have h := h.1 hc
        refine x_aload_n dX12_reads_123 rfl 124 rfl ?_
        refine x_aload_n dX12_reads_124 rfl 125 rfl ?_
        refine x_aload_n dX12_reads_125 rfl 126 rfl ?_
        refine gf12_13 dX12_reads_126 129 rfl hk_l0 kw5_172 ?_
        refine x_aload_n dX12_reads_129 rfl 130 rfl ?_
        refine gf12_12 dX12_reads_130 133 rfl hk_l0 kw5_171 ?_
        refine kX12_wordAt dX12_reads_133 136 rfl hk_l0 kw6_158 (Nat.le_of_ble_eq_true rfl) (Nat.le_of_ble_eq_true rfl) h (fun r4 h => ?_)
        refine pf12_15 dX12_reads_136 139 rfl hk_l0 kw5_174 (x_mem (fun M5 hM5 => ?_))
        have h := h M5 hM5
        refine x_aload_n dX12_reads_139 rfl 140 rfl ?_
        refine gf12_15 dX12_reads_140 143 rfl hk_l0 kw5_174 ?_
        refine x_iconst dX12_reads_143 kc_m1 144 rfl ?_
        refine x_icmp_eq dX12_reads_144 273 147 rfl rfl (fun hc => ?_) (fun hc => ?_)
        · have h := h.1 hc
          exact x_vret dX12_reads_273 h
        · have h := h.2 hc
          refine x_aload_n dX12_reads_147 rfl 148 rfl ?_
          refine x_iconst dX12_reads_148 kc_2 149 rfl ?_
          refine pf12_14 dX12_reads_149 152 rfl hk_l0 kw5_173 (x_mem (fun M6 hM6 => ?_))
          have h := h M6 hM6
          refine x_goto dX12_reads_152 273 rfl ?_
          exact x_vret dX12_reads_273 h
      · have h := h.2 hc
        refine x_aload_n dX12_reads_110 rfl 111 rfl ?_
        refine x_aload_n dX12_reads_111 rfl 112 rfl ?_
        refine gf12_12 dX12_reads_112 115 rfl hk_l0 kw5_171 ?_
        refine x_iconst dX12_reads_115 kc_1 116 rfl ?_
        refine x_iadd dX12_reads_116 117 rfl ?_
        refine pf12_12 dX12_reads_117 120 rfl hk_l0 kw5_171 (x_mem (fun M7 hM7 => ?_))
        have h := h M7 hM7
        refine x_goto dX12_reads_120 95 rfl ?_
        exact hB95 _ h
  exact hB95 n M h
def NX12_reads_223 (Q : Mem → Prop) (B171 : Mem → Prop) (l0 : Nat) (s0 : Nat) (s1 : Int32) (M : Mem) : Prop :=
  ∀ M8 : Mem, M8 = xu M s0 15 s1 → ∀ M9 : Mem, M9 = xu M8 l0 12 ((M8 l0 12) + 1) → B171 M9
theorem nX12_reads_223 {Q : Mem → Prop} {B171 : Mem → Prop} {l0 : Nat} {s0 : Nat} {s1 : Int32} {M : Mem} (hB171 : ∀ (M : Mem), B171 M → xX RX12 cX12_reads 2 none 3 171 [(0, .ref l0)] [] M (xQv Q)) (hk_l0 : SHk l0 = 12) (hk_s0 : SHk s0 = 12) (h : NX12_reads_223 Q B171 l0 s0 s1 M) : xX RX12 cX12_reads 2 none 3 223 [(0, .ref l0)] [.int s1, .ref s0] M (xQv Q) := by
  unfold NX12_reads_223 at h
  refine pf12_15 dX12_reads_223 226 rfl hk_s0 kw5_174 (x_mem (fun M8 hM8 => ?_))
  have h := h M8 hM8
  refine x_aload_n dX12_reads_226 rfl 227 rfl ?_
  refine x_aload_n dX12_reads_227 rfl 228 rfl ?_
  refine gf12_12 dX12_reads_228 231 rfl hk_l0 kw5_171 ?_
  refine x_iconst dX12_reads_231 kc_1 232 rfl ?_
  refine x_iadd dX12_reads_232 233 rfl ?_
  refine pf12_12 dX12_reads_233 236 rfl hk_l0 kw5_171 (x_mem (fun M9 hM9 => ?_))
  have h := h M9 hM9
  refine x_goto dX12_reads_236 171 rfl ?_
  exact hB171 _ h
def lbX12_reads_171 (Q : Mem → Prop) (l0 : Nat) (B171 : Mem → Prop) (M : Mem) : Prop :=
  FX12_raw (fun (r10 : Int32) => FX12_isDigit (fun (r11 : Bool) => ((r11 = false → ((5 ≤ ((M l0 12) - (M l0 13)) → Q M) ∧ (¬ 5 ≤ ((M l0 12) - (M l0 13)) → ∀ M12 : Mem, M12 = xu M l0 14 3 → Q M12))) ∧ (r11 = true → ((10000 ≤ (M l0 15) → NX12_reads_223 Q B171 l0 l0 (M l0 15) M) ∧ (¬ 10000 ≤ (M l0 15) → FX12_raw (fun (r13 : Int32) => NX12_reads_223 Q B171 l0 l0 (((10 * (M l0 15)) + r13) - 48) M) l0 (M l0 12) M))))) l0 r10 M) l0 (M l0 12) M
def NX12_reads_171 (Q : Mem → Prop) (l0 : Nat) (M : Mem) : Prop := xlp (fun (B : Mem → Prop) a => lbX12_reads_171 Q l0 (fun M => B (M)) a) (M)
theorem nX12_reads_171 {Q : Mem → Prop} {l0 : Nat} {M : Mem} (hk_l0 : SHk l0 = 12) (h : NX12_reads_171 Q l0 M) : xX RX12 cX12_reads 2 none 3 171 [(0, .ref l0)] [] M (xQv Q) := by
  obtain ⟨n, h⟩ := h
  have hB171 : ∀ (n : Nat) (M : Mem), xlpn (fun (B : Mem → Prop) a => lbX12_reads_171 Q l0 (fun M => B (M)) a) n (M) → xX RX12 cX12_reads 2 none 3 171 [(0, .ref l0)] [] M (xQv Q) := by
    intro n
    induction n with
    | zero => intro M h; exact False.elim h
    | succ n ih =>
      intro M h
      have hB171 := ih
      have h : lbX12_reads_171 Q l0 (fun M => xlpn (fun (B : Mem → Prop) a => lbX12_reads_171 Q l0 (fun M => B (M)) a) n (M)) M := h
      unfold lbX12_reads_171 at h
      refine x_aload_n dX12_reads_171 rfl 172 rfl ?_
      refine x_aload_n dX12_reads_172 rfl 173 rfl ?_
      refine x_aload_n dX12_reads_173 rfl 174 rfl ?_
      refine gf12_12 dX12_reads_174 177 rfl hk_l0 kw5_171 ?_
      refine kX12_raw dX12_reads_177 180 rfl hk_l0 kw6_150 (Nat.le_of_ble_eq_true rfl) (Nat.le_of_ble_eq_true rfl) h (fun r10 h => ?_)
      refine kX12_isDigit dX12_reads_180 183 rfl hk_l0 kw6_162 (Nat.le_of_ble_eq_true rfl) (Nat.le_of_ble_eq_true rfl) h (fun r11 h => ?_)
      refine x_if_eq_b dX12_reads_183 239 186 rfl rfl (fun hc => ?_) (fun hc => ?_)
      · have h := h.1 hc
        refine x_aload_n dX12_reads_239 rfl 240 rfl ?_
        refine gf12_12 dX12_reads_240 243 rfl hk_l0 kw5_171 ?_
        refine x_aload_n dX12_reads_243 rfl 244 rfl ?_
        refine gf12_13 dX12_reads_244 247 rfl hk_l0 kw5_172 ?_
        refine x_isub dX12_reads_247 248 rfl ?_
        refine x_iconst dX12_reads_248 kc_5 249 rfl ?_
        refine x_icmp_ge dX12_reads_249 273 252 rfl rfl (fun hc => ?_) (fun hc => ?_)
        · have h := h.1 hc
          exact x_vret dX12_reads_273 h
        · have h := h.2 hc
          refine x_aload_n dX12_reads_252 rfl 253 rfl ?_
          refine x_iconst dX12_reads_253 kc_3 254 rfl ?_
          refine pf12_14 dX12_reads_254 257 rfl hk_l0 kw5_173 (x_mem (fun M12 hM12 => ?_))
          have h := h M12 hM12
          refine x_goto dX12_reads_257 273 rfl ?_
          exact x_vret dX12_reads_273 h
      · have h := h.2 hc
        refine x_aload_n dX12_reads_186 rfl 187 rfl ?_
        refine x_aload_n dX12_reads_187 rfl 188 rfl ?_
        refine gf12_15 dX12_reads_188 191 rfl hk_l0 kw5_174 ?_
        refine x_sipush dX12_reads_191 kh_10000 194 rfl ?_
        refine x_icmp_ge dX12_reads_194 219 197 rfl rfl (fun hc => ?_) (fun hc => ?_)
        · have h := h.1 hc
          refine x_aload_n dX12_reads_219 rfl 220 rfl ?_
          refine gf12_15 dX12_reads_220 223 rfl hk_l0 kw5_174 ?_
          exact nX12_reads_223 hB171 hk_l0 hk_l0 h
        · have h := h.2 hc
          refine x_bipush dX12_reads_197 kb_10 199 rfl ?_
          refine x_aload_n dX12_reads_199 rfl 200 rfl ?_
          refine gf12_15 dX12_reads_200 203 rfl hk_l0 kw5_174 ?_
          refine x_imul dX12_reads_203 204 rfl ?_
          refine x_aload_n dX12_reads_204 rfl 205 rfl ?_
          refine x_aload_n dX12_reads_205 rfl 206 rfl ?_
          refine gf12_12 dX12_reads_206 209 rfl hk_l0 kw5_171 ?_
          refine kX12_raw dX12_reads_209 212 rfl hk_l0 kw6_150 (Nat.le_of_ble_eq_true rfl) (Nat.le_of_ble_eq_true rfl) h (fun r13 h => ?_)
          refine x_iadd dX12_reads_212 213 rfl ?_
          refine x_bipush dX12_reads_213 kb_48 215 rfl ?_
          refine x_isub dX12_reads_215 216 rfl ?_
          refine x_goto dX12_reads_216 223 rfl ?_
          exact nX12_reads_223 hB171 hk_l0 hk_l0 h
  exact hB171 n M h
def lbX12_reads_0 (Q : Mem → Prop) (l0 : Nat) (B0 : Mem → Prop) (M : Mem) : Prop :=
  FX12_raw (fun (r14 : Int32) => ((r14 = 32 → NX12_reads_26 Q B0 l0 M) ∧ (¬ r14 = 32 → FX12_raw (fun (r15 : Int32) => ((¬ r15 = 10 → ∀ M16 : Mem, M16 = xu M l0 13 (M l0 12) → ∀ M17 : Mem, M17 = xu M16 l0 14 1 → FX12_raw (fun (r18 : Int32) => ((¬ r18 = (-1) → ∀ M19 : Mem, M19 = xu M17 l0 12 ((M17 l0 12) + 1) → ∀ M20 : Mem, M20 = xu M19 l0 15 r18 → FX12_isLetter (fun (r21 : Bool) => ((r21 = false → FX12_isDigit (fun (r22 : Bool) => ((r22 = false → FX12_isMarkSign (fun (r23 : Bool) => ((r23 = false → Q M20) ∧ (r23 = true → ∀ M24 : Mem, M24 = xu M20 l0 14 4 → Q M24))) l0 r18 M20) ∧ (r22 = true → ∀ M25 : Mem, M25 = xu M20 l0 15 (r18 - 48) → NX12_reads_171 Q l0 M25))) l0 r18 M20) ∧ (r21 = true → NX12_reads_95 Q l0 M20))) l0 r18 M20) ∧ (r18 = (-1) → ∀ M26 : Mem, M26 = xu M17 l0 14 0 → Q M26))) l0 (M17 l0 12) M17) ∧ (r15 = 10 → NX12_reads_26 Q B0 l0 M))) l0 (M l0 12) M))) l0 (M l0 12) M
def NX12_reads_0 (Q : Mem → Prop) (l0 : Nat) (M : Mem) : Prop := xlp (fun (B : Mem → Prop) a => lbX12_reads_0 Q l0 (fun M => B (M)) a) (M)
theorem nX12_reads_0 {Q : Mem → Prop} {l0 : Nat} {M : Mem} (hk_l0 : SHk l0 = 12) (h : NX12_reads_0 Q l0 M) : xX RX12 cX12_reads 2 none 3 0 [(0, .ref l0)] [] M (xQv Q) := by
  obtain ⟨n, h⟩ := h
  have hB0 : ∀ (n : Nat) (M : Mem), xlpn (fun (B : Mem → Prop) a => lbX12_reads_0 Q l0 (fun M => B (M)) a) n (M) → xX RX12 cX12_reads 2 none 3 0 [(0, .ref l0)] [] M (xQv Q) := by
    intro n
    induction n with
    | zero => intro M h; exact False.elim h
    | succ n ih =>
      intro M h
      have hB0 := ih
      have h : lbX12_reads_0 Q l0 (fun M => xlpn (fun (B : Mem → Prop) a => lbX12_reads_0 Q l0 (fun M => B (M)) a) n (M)) M := h
      unfold lbX12_reads_0 at h
      refine x_aload_n dX12_reads_0 rfl 1 rfl ?_
      refine x_aload_n dX12_reads_1 rfl 2 rfl ?_
      refine gf12_12 dX12_reads_2 5 rfl hk_l0 kw5_171 ?_
      refine kX12_raw dX12_reads_5 8 rfl hk_l0 kw6_150 (Nat.le_of_ble_eq_true rfl) (Nat.le_of_ble_eq_true rfl) h (fun r14 h => ?_)
      refine x_bipush dX12_reads_8 kb_32 10 rfl ?_
      refine x_icmp_eq dX12_reads_10 26 13 rfl rfl (fun hc => ?_) (fun hc => ?_)
      · have h := h.1 hc
        exact nX12_reads_26 hB0 hk_l0 h
      · have h := h.2 hc
        refine x_aload_n dX12_reads_13 rfl 14 rfl ?_
        refine x_aload_n dX12_reads_14 rfl 15 rfl ?_
        refine gf12_12 dX12_reads_15 18 rfl hk_l0 kw5_171 ?_
        refine kX12_raw dX12_reads_18 21 rfl hk_l0 kw6_150 (Nat.le_of_ble_eq_true rfl) (Nat.le_of_ble_eq_true rfl) h (fun r15 h => ?_)
        refine x_bipush dX12_reads_21 kb_10 23 rfl ?_
        refine x_icmp_ne dX12_reads_23 39 26 rfl rfl (fun hc => ?_) (fun hc => ?_)
        · have h := h.1 hc
          refine x_aload_n dX12_reads_39 rfl 40 rfl ?_
          refine x_aload_n dX12_reads_40 rfl 41 rfl ?_
          refine gf12_12 dX12_reads_41 44 rfl hk_l0 kw5_171 ?_
          refine pf12_13 dX12_reads_44 47 rfl hk_l0 kw5_172 (x_mem (fun M16 hM16 => ?_))
          have h := h M16 hM16
          refine x_aload_n dX12_reads_47 rfl 48 rfl ?_
          refine x_iconst dX12_reads_48 kc_1 49 rfl ?_
          refine pf12_14 dX12_reads_49 52 rfl hk_l0 kw5_173 (x_mem (fun M17 hM17 => ?_))
          have h := h M17 hM17
          refine x_aload_n dX12_reads_52 rfl 53 rfl ?_
          refine x_aload_n dX12_reads_53 rfl 54 rfl ?_
          refine gf12_12 dX12_reads_54 57 rfl hk_l0 kw5_171 ?_
          refine kX12_raw dX12_reads_57 60 rfl hk_l0 kw6_150 (Nat.le_of_ble_eq_true rfl) (Nat.le_of_ble_eq_true rfl) h (fun r18 h => ?_)
          refine x_istore_n dX12_reads_60 (Nat.le_of_ble_eq_true rfl) [(0, .ref l0), (1, .int r18)] rfl 61 rfl ?_
          refine x_iload_n dX12_reads_61 rfl 62 rfl ?_
          refine x_iconst dX12_reads_62 kc_m1 63 rfl ?_
          refine x_icmp_ne dX12_reads_63 72 66 rfl rfl (fun hc => ?_) (fun hc => ?_)
          · have h := h.1 hc
            refine x_aload_n dX12_reads_72 rfl 73 rfl ?_
            refine x_aload_n dX12_reads_73 rfl 74 rfl ?_
            refine gf12_12 dX12_reads_74 77 rfl hk_l0 kw5_171 ?_
            refine x_iconst dX12_reads_77 kc_1 78 rfl ?_
            refine x_iadd dX12_reads_78 79 rfl ?_
            refine pf12_12 dX12_reads_79 82 rfl hk_l0 kw5_171 (x_mem (fun M19 hM19 => ?_))
            have h := h M19 hM19
            refine x_aload_n dX12_reads_82 rfl 83 rfl ?_
            refine x_iload_n dX12_reads_83 rfl 84 rfl ?_
            refine pf12_15 dX12_reads_84 87 rfl hk_l0 kw5_174 (x_mem (fun M20 hM20 => ?_))
            have h := h M20 hM20
            refine x_aload_n dX12_reads_87 rfl 88 rfl ?_
            refine x_iload_n dX12_reads_88 rfl 89 rfl ?_
            refine kX12_isLetter dX12_reads_89 92 rfl hk_l0 kw6_154 (Nat.le_of_ble_eq_true rfl) (Nat.le_of_ble_eq_true rfl) h (fun r21 h => ?_)
            refine x_if_eq_b dX12_reads_92 155 95 rfl rfl (fun hc => ?_) (fun hc => ?_)
            · have h := h.1 hc
              refine x_aload_n dX12_reads_155 rfl 156 rfl ?_
              refine x_iload_n dX12_reads_156 rfl 157 rfl ?_
              refine kX12_isDigit dX12_reads_157 160 rfl hk_l0 kw6_162 (Nat.le_of_ble_eq_true rfl) (Nat.le_of_ble_eq_true rfl) h (fun r22 h => ?_)
              refine x_if_eq_b dX12_reads_160 260 163 rfl rfl (fun hc => ?_) (fun hc => ?_)
              · have h := h.1 hc
                refine x_aload_n dX12_reads_260 rfl 261 rfl ?_
                refine x_iload_n dX12_reads_261 rfl 262 rfl ?_
                refine kX12_isMarkSign dX12_reads_262 265 rfl hk_l0 kw6_166 (Nat.le_of_ble_eq_true rfl) (Nat.le_of_ble_eq_true rfl) h (fun r23 h => ?_)
                refine x_if_eq_b dX12_reads_265 273 268 rfl rfl (fun hc => ?_) (fun hc => ?_)
                · have h := h.1 hc
                  exact x_vret dX12_reads_273 h
                · have h := h.2 hc
                  refine x_aload_n dX12_reads_268 rfl 269 rfl ?_
                  refine x_iconst dX12_reads_269 kc_4 270 rfl ?_
                  refine pf12_14 dX12_reads_270 273 rfl hk_l0 kw5_173 (x_mem (fun M24 hM24 => ?_))
                  have h := h M24 hM24
                  exact x_vret dX12_reads_273 h
              · have h := h.2 hc
                refine x_aload_n dX12_reads_163 rfl 164 rfl ?_
                refine x_iload_n dX12_reads_164 rfl 165 rfl ?_
                refine x_bipush dX12_reads_165 kb_48 167 rfl ?_
                refine x_isub dX12_reads_167 168 rfl ?_
                refine pf12_15 dX12_reads_168 171 rfl hk_l0 kw5_174 (x_mem (fun M25 hM25 => ?_))
                have h := h M25 hM25
                refine x_weak [(0, .ref l0)] [0] rfl ?_
                exact nX12_reads_171 hk_l0 h
            · have h := h.2 hc
              refine x_weak [(0, .ref l0)] [0] rfl ?_
              exact nX12_reads_95 hk_l0 h
          · have h := h.2 hc
            refine x_aload_n dX12_reads_66 rfl 67 rfl ?_
            refine x_iconst dX12_reads_67 kc_0 68 rfl ?_
            refine pf12_14 dX12_reads_68 71 rfl hk_l0 kw5_173 (x_mem (fun M26 hM26 => ?_))
            have h := h M26 hM26
            exact x_vret dX12_reads_71 h
        · have h := h.2 hc
          exact nX12_reads_26 hB0 hk_l0 h
  exact hB0 n M h
def FX12_reads (Q : Mem → Prop) (l0 : Nat) (M : Mem) : Prop :=
  NX12_reads_0 Q l0 M
theorem eX12_reads {Q : Mem → Prop} {l0 : Nat} {M : Mem} (hk_l0 : SHk l0 = 12) (h : FX12_reads Q l0 M) : xX RX12 cX12_reads 2 none 3 0 [(0, .ref l0)] [] M (xQv Q) := by
  unfold FX12_reads at h
  exact nX12_reads_0 hk_l0 h
theorem cX12_reads_ {Q : Mem → Prop} {l0 : Nat} {M : Mem} (hk_l0 : SHk l0 = 12) (h : FX12_reads Q l0 M) : xM yX12_reads cX12_reads 2 none 3 [.ref l0] M (xQv Q) := xM_of (by decide +kernel) (Nat.le_of_ble_eq_true rfl) (eX12_reads hk_l0 h)
theorem kX12_reads {own : String} {cc : ByteArray} {nL : Nat} {rt : Option FieldType} {d pc ix : Nat} {L : List (Nat × Value)} {st : List Value} {M : Mem} {Rt : xGt → Array Value → State → Outcome → State → Prop} {Q : Mem → Prop} {l0 : Nat} (hd : decode cc pc = .ok (.invokevirtual ix, 3)) (q : Nat) (hq : pc + 3 = q) (hk_l0 : SHk l0 = 12) (w1 : Cond.methodLink own ix yX12_reads ∈ xTs) (hr : 3 < d) (hst : (st.map fun v => v.category).sum ≤ 8) (h : FX12_reads Q l0 M) (k : ∀ (N : Mem), Q N → xX own cc nL rt d q L st N Rt) : xX own cc nL rt d pc L (.ref l0 :: st) M Rt :=
  x_callV_v (n := 0) (As := []) hd q hq hk_l0 (by decide) rfl rfl w1 kw6_148 ks3_12 kw1_14 kw6_149 (by decide +kernel) rfl hr (by decide) hst _ rfl (cX12_reads_ hk_l0 h) k
def FX12_errs (Q : Int32 → Mem → Prop) (l0 : Nat) (l1 : Int32) (M : Mem) : Prop :=
  ∀ M1 : Mem, M1 = xu M l0 29 l1 → ∀ M2 : Mem, M2 = xu M1 l0 30 (M1 l0 13) → Q (-1) M2
theorem eX12_errs {Q : Int32 → Mem → Prop} {l0 : Nat} {l1 : Int32} {M : Mem} (hk_l0 : SHk l0 = 12) (h : FX12_errs Q l0 l1 M) : xX RX12 cX12_errs 2 (some .int) 1 0 [(0, .ref l0), (1, .int l1)] [] M (xQi Q) := by
  unfold FX12_errs at h
  refine x_aload_n dX12_errs_0 rfl 1 rfl ?_
  refine x_iload_n dX12_errs_1 rfl 2 rfl ?_
  refine pf12_29 dX12_errs_2 5 rfl hk_l0 kw5_188 (x_mem (fun M1 hM1 => ?_))
  have h := h M1 hM1
  refine x_aload_n dX12_errs_5 rfl 6 rfl ?_
  refine x_aload_n dX12_errs_6 rfl 7 rfl ?_
  refine gf12_13 dX12_errs_7 10 rfl hk_l0 kw5_172 ?_
  refine pf12_30 dX12_errs_10 13 rfl hk_l0 kw5_189 (x_mem (fun M2 hM2 => ?_))
  have h := h M2 hM2
  refine x_iconst dX12_errs_13 kc_m1 14 rfl ?_
  exact x_iret dX12_errs_14 h
theorem cX12_errs_ {Q : Int32 → Mem → Prop} {l0 : Nat} {l1 : Int32} {M : Mem} (hk_l0 : SHk l0 = 12) (h : FX12_errs Q l0 l1 M) : xM yX12_errs cX12_errs 2 (some .int) 1 [.ref l0, .int l1] M (xQi Q) := xM_of (by decide +kernel) (Nat.le_of_ble_eq_true rfl) (eX12_errs hk_l0 h)
theorem kX12_errs {own : String} {cc : ByteArray} {nL : Nat} {rt : Option FieldType} {d pc ix : Nat} {L : List (Nat × Value)} {st : List Value} {M : Mem} {Rt : xGt → Array Value → State → Outcome → State → Prop} {Q : Int32 → Mem → Prop} {l0 : Nat} {l1 : Int32} (hd : decode cc pc = .ok (.invokevirtual ix, 3)) (q : Nat) (hq : pc + 3 = q) (hk_l0 : SHk l0 = 12) (w1 : Cond.methodLink own ix yX12_errs ∈ xTs) (hr : 1 < d) (hst : (st.map fun v => v.category).sum ≤ 8) (h : FX12_errs Q l0 l1 M) (k : ∀ (r : Int32) (N : Mem), Q r N → xX own cc nL rt d q L (.int r :: st) N Rt) : xX own cc nL rt d pc L (.int l1 :: .ref l0 :: st) M Rt :=
  x_callV_i (n := 1) (As := [.int l1]) hd q hq hk_l0 (by decide) rfl rfl w1 kw6_180 ks4_4 kw1_14 kw6_181 (by decide +kernel) rfl hr (by decide) hst _ rfl (cX12_errs_ hk_l0 h) k
def FX12_isWord (Q : Bool → Prop) (l0 : Nat) (l1 : Int32) (M : Mem) : Prop :=
  ((¬ (M l0 14) = 2 → Q false) ∧ ((M l0 14) = 2 → ((¬ (M l0 15) = l1 → Q false) ∧ ((M l0 15) = l1 → Q true))))
theorem eX12_isWord {Q : Bool → Prop} {l0 : Nat} {l1 : Int32} {M : Mem} (hk_l0 : SHk l0 = 12) (h : FX12_isWord Q l0 l1 M) : xX RX12 cX12_isWord 2 (some .boolean) 1 0 [(0, .ref l0), (1, .int l1)] [] M (xQb (xP M Q)) := by
  unfold FX12_isWord at h
  refine x_aload_n dX12_isWord_0 rfl 1 rfl ?_
  refine gf12_14 dX12_isWord_1 4 rfl hk_l0 kw5_173 ?_
  refine x_iconst dX12_isWord_4 kc_2 5 rfl ?_
  refine x_icmp_ne dX12_isWord_5 20 8 rfl rfl (fun hc => ?_) (fun hc => ?_)
  · have h := h.1 hc
    refine x_iconst dX12_isWord_20 kc_0 21 rfl ?_
    exact x_zret (z := false) dX12_isWord_21 ⟨rfl, h⟩
  · have h := h.2 hc
    refine x_aload_n dX12_isWord_8 rfl 9 rfl ?_
    refine gf12_15 dX12_isWord_9 12 rfl hk_l0 kw5_174 ?_
    refine x_iload_n dX12_isWord_12 rfl 13 rfl ?_
    refine x_icmp_ne dX12_isWord_13 20 16 rfl rfl (fun hc => ?_) (fun hc => ?_)
    · have h := h.1 hc
      refine x_iconst dX12_isWord_20 kc_0 21 rfl ?_
      exact x_zret (z := false) dX12_isWord_21 ⟨rfl, h⟩
    · have h := h.2 hc
      refine x_iconst dX12_isWord_16 kc_1 17 rfl ?_
      refine x_goto dX12_isWord_17 21 rfl ?_
      exact x_zret (z := true) dX12_isWord_21 ⟨rfl, h⟩
theorem cX12_isWord_ {Q : Bool → Prop} {l0 : Nat} {l1 : Int32} {M : Mem} (hk_l0 : SHk l0 = 12) (h : FX12_isWord Q l0 l1 M) : xM yX12_isWord cX12_isWord 2 (some .boolean) 1 [.ref l0, .int l1] M (xQb (xP M Q)) := xM_of (by decide +kernel) (Nat.le_of_ble_eq_true rfl) (eX12_isWord hk_l0 h)
theorem kX12_isWord {own : String} {cc : ByteArray} {nL : Nat} {rt : Option FieldType} {d pc ix : Nat} {L : List (Nat × Value)} {st : List Value} {M : Mem} {Rt : xGt → Array Value → State → Outcome → State → Prop} {Q : Bool → Prop} {l0 : Nat} {l1 : Int32} (hd : decode cc pc = .ok (.invokevirtual ix, 3)) (q : Nat) (hq : pc + 3 = q) (hk_l0 : SHk l0 = 12) (w1 : Cond.methodLink own ix yX12_isWord ∈ xTs) (hr : 1 < d) (hst : (st.map fun v => v.category).sum ≤ 8) (h : FX12_isWord Q l0 l1 M) (k : ∀ (r : Bool), Q r → xX own cc nL rt d q L (.int (bI r) :: st) M Rt) : xX own cc nL rt d pc L (.int l1 :: .ref l0 :: st) M Rt :=
  x_callV_b (n := 1) (As := [.int l1]) hd q hq hk_l0 (by decide) rfl rfl w1 kw6_176 ks4_3 kw1_14 kw6_177 (by decide +kernel) rfl hr (by decide) hst _ rfl (cX12_isWord_ hk_l0 h) (fun r N hN => by obtain ⟨rfl, hN⟩ := hN; exact k r hN)
def FX12_isSign (Q : Bool → Prop) (l0 : Nat) (l1 : Int32) (M : Mem) : Prop :=
  ((¬ (M l0 14) = 4 → Q false) ∧ ((M l0 14) = 4 → ((¬ (M l0 15) = l1 → Q false) ∧ ((M l0 15) = l1 → Q true))))
theorem eX12_isSign {Q : Bool → Prop} {l0 : Nat} {l1 : Int32} {M : Mem} (hk_l0 : SHk l0 = 12) (h : FX12_isSign Q l0 l1 M) : xX RX12 cX12_isSign 2 (some .boolean) 1 0 [(0, .ref l0), (1, .int l1)] [] M (xQb (xP M Q)) := by
  unfold FX12_isSign at h
  refine x_aload_n dX12_isSign_0 rfl 1 rfl ?_
  refine gf12_14 dX12_isSign_1 4 rfl hk_l0 kw5_173 ?_
  refine x_iconst dX12_isSign_4 kc_4 5 rfl ?_
  refine x_icmp_ne dX12_isSign_5 20 8 rfl rfl (fun hc => ?_) (fun hc => ?_)
  · have h := h.1 hc
    refine x_iconst dX12_isSign_20 kc_0 21 rfl ?_
    exact x_zret (z := false) dX12_isSign_21 ⟨rfl, h⟩
  · have h := h.2 hc
    refine x_aload_n dX12_isSign_8 rfl 9 rfl ?_
    refine gf12_15 dX12_isSign_9 12 rfl hk_l0 kw5_174 ?_
    refine x_iload_n dX12_isSign_12 rfl 13 rfl ?_
    refine x_icmp_ne dX12_isSign_13 20 16 rfl rfl (fun hc => ?_) (fun hc => ?_)
    · have h := h.1 hc
      refine x_iconst dX12_isSign_20 kc_0 21 rfl ?_
      exact x_zret (z := false) dX12_isSign_21 ⟨rfl, h⟩
    · have h := h.2 hc
      refine x_iconst dX12_isSign_16 kc_1 17 rfl ?_
      refine x_goto dX12_isSign_17 21 rfl ?_
      exact x_zret (z := true) dX12_isSign_21 ⟨rfl, h⟩
theorem cX12_isSign_ {Q : Bool → Prop} {l0 : Nat} {l1 : Int32} {M : Mem} (hk_l0 : SHk l0 = 12) (h : FX12_isSign Q l0 l1 M) : xM yX12_isSign cX12_isSign 2 (some .boolean) 1 [.ref l0, .int l1] M (xQb (xP M Q)) := xM_of (by decide +kernel) (Nat.le_of_ble_eq_true rfl) (eX12_isSign hk_l0 h)
theorem kX12_isSign {own : String} {cc : ByteArray} {nL : Nat} {rt : Option FieldType} {d pc ix : Nat} {L : List (Nat × Value)} {st : List Value} {M : Mem} {Rt : xGt → Array Value → State → Outcome → State → Prop} {Q : Bool → Prop} {l0 : Nat} {l1 : Int32} (hd : decode cc pc = .ok (.invokevirtual ix, 3)) (q : Nat) (hq : pc + 3 = q) (hk_l0 : SHk l0 = 12) (w1 : Cond.methodLink own ix yX12_isSign ∈ xTs) (hr : 1 < d) (hst : (st.map fun v => v.category).sum ≤ 8) (h : FX12_isSign Q l0 l1 M) (k : ∀ (r : Bool), Q r → xX own cc nL rt d q L (.int (bI r) :: st) M Rt) : xX own cc nL rt d pc L (.int l1 :: .ref l0 :: st) M Rt :=
  x_callV_b (n := 1) (As := [.int l1]) hd q hq hk_l0 (by decide) rfl rfl w1 kw6_196 ks4_8 kw1_14 kw6_197 (by decide +kernel) rfl hr (by decide) hst _ rfl (cX12_isSign_ hk_l0 h) (fun r N hN => by obtain ⟨rfl, hN⟩ := hN; exact k r hN)
def FX12_emits (Q : Mem → Prop) (l0 : Nat) (l1 : Int32) (l2 : Int32) (M : Mem) : Prop :=
  vp_in (800 + (M l0 25)) 1200 ∧ ∀ M1 : Mem, M1 = xu M (l0 + 13) (ix (800 + (M l0 25))) l1 → vp_in (800 + (M1 l0 25)) 1200 ∧ ∀ M2 : Mem, M2 = xu M1 (l0 + 14) (ix (800 + (M1 l0 25))) l2 → ∀ M3 : Mem, M3 = xu M2 l0 25 ((M2 l0 25) + 1) → Q M3
theorem eX12_emits {Q : Mem → Prop} {l0 : Nat} {l1 : Int32} {l2 : Int32} {M : Mem} (hk_l0 : SHk l0 = 12) (h : FX12_emits Q l0 l1 l2 M) : xX RX12 cX12_emits 3 none 1 0 [(0, .ref l0), (1, .int l1), (2, .int l2)] [] M (xQv Q) := by
  unfold FX12_emits at h
  refine x_aload_n dX12_emits_0 rfl 1 rfl ?_
  refine gf12_22 dX12_emits_1 4 rfl hk_l0 kw5_181 ?_
  refine x_sipush dX12_emits_4 kh_800 7 rfl ?_
  refine x_aload_n dX12_emits_7 rfl 8 rfl ?_
  refine gf12_25 dX12_emits_8 11 rfl hk_l0 kw5_184 ?_
  refine x_iadd dX12_emits_11 12 rfl ?_
  refine x_iload_n dX12_emits_12 rfl 13 rfl ?_
  obtain ⟨hin, h⟩ := h
  refine x_iastore dX12_emits_13 (ly12_22 hk_l0) hin 14 rfl (x_mem (fun M1 hM1 => ?_))
  have h := h M1 hM1
  refine x_aload_n dX12_emits_14 rfl 15 rfl ?_
  refine gf12_23 dX12_emits_15 18 rfl hk_l0 kw5_182 ?_
  refine x_sipush dX12_emits_18 kh_800 21 rfl ?_
  refine x_aload_n dX12_emits_21 rfl 22 rfl ?_
  refine gf12_25 dX12_emits_22 25 rfl hk_l0 kw5_184 ?_
  refine x_iadd dX12_emits_25 26 rfl ?_
  refine x_iload_n dX12_emits_26 rfl 27 rfl ?_
  obtain ⟨hin, h⟩ := h
  refine x_iastore dX12_emits_27 (ly12_23 hk_l0) hin 28 rfl (x_mem (fun M2 hM2 => ?_))
  have h := h M2 hM2
  refine x_aload_n dX12_emits_28 rfl 29 rfl ?_
  refine x_aload_n dX12_emits_29 rfl 30 rfl ?_
  refine gf12_25 dX12_emits_30 33 rfl hk_l0 kw5_184 ?_
  refine x_iconst dX12_emits_33 kc_1 34 rfl ?_
  refine x_iadd dX12_emits_34 35 rfl ?_
  refine pf12_25 dX12_emits_35 38 rfl hk_l0 kw5_184 (x_mem (fun M3 hM3 => ?_))
  have h := h M3 hM3
  exact x_vret dX12_emits_38 h
theorem cX12_emits_ {Q : Mem → Prop} {l0 : Nat} {l1 : Int32} {l2 : Int32} {M : Mem} (hk_l0 : SHk l0 = 12) (h : FX12_emits Q l0 l1 l2 M) : xM yX12_emits cX12_emits 3 none 1 [.ref l0, .int l1, .int l2] M (xQv Q) := xM_of (by decide +kernel) (Nat.le_of_ble_eq_true rfl) (eX12_emits hk_l0 h)
theorem kX12_emits {own : String} {cc : ByteArray} {nL : Nat} {rt : Option FieldType} {d pc ix : Nat} {L : List (Nat × Value)} {st : List Value} {M : Mem} {Rt : xGt → Array Value → State → Outcome → State → Prop} {Q : Mem → Prop} {l0 : Nat} {l1 : Int32} {l2 : Int32} (hd : decode cc pc = .ok (.invokevirtual ix, 3)) (q : Nat) (hq : pc + 3 = q) (hk_l0 : SHk l0 = 12) (w1 : Cond.methodLink own ix yX12_emits ∈ xTs) (hr : 1 < d) (hst : (st.map fun v => v.category).sum ≤ 8) (h : FX12_emits Q l0 l1 l2 M) (k : ∀ (N : Mem), Q N → xX own cc nL rt d q L st N Rt) : xX own cc nL rt d pc L (.int l2 :: .int l1 :: .ref l0 :: st) M Rt :=
  x_callV_v (n := 2) (As := [.int l1, .int l2]) hd q hq hk_l0 (by decide) rfl rfl w1 kw7_4 ks5_4 kw1_14 kw7_5 (by decide +kernel) rfl hr (by decide) hst _ rfl (cX12_emits_ hk_l0 h) k
def FX12_canAsk (Q : Bool → Prop) (l0 : Nat) (l1 : Int32) (M : Mem) : Prop :=
  FX12_isIn (fun (r1 : Bool) => Q r1) l0 l1 7 15 M
theorem eX12_canAsk {Q : Bool → Prop} {l0 : Nat} {l1 : Int32} {M : Mem} (hk_l0 : SHk l0 = 12) (h : FX12_canAsk Q l0 l1 M) : xX RX12 cX12_canAsk 2 (some .boolean) 2 0 [(0, .ref l0), (1, .int l1)] [] M (xQb (xP M Q)) := by
  unfold FX12_canAsk at h
  refine x_aload_n dX12_canAsk_0 rfl 1 rfl ?_
  refine x_iload_n dX12_canAsk_1 rfl 2 rfl ?_
  refine x_bipush dX12_canAsk_2 kb_7 4 rfl ?_
  refine x_bipush dX12_canAsk_4 kb_15 6 rfl ?_
  refine kX12_isIn dX12_canAsk_6 9 rfl hk_l0 kw6_82 (Nat.le_of_ble_eq_true rfl) (Nat.le_of_ble_eq_true rfl) h (fun r1 h => ?_)
  exact x_zret dX12_canAsk_9 ⟨rfl, h⟩
theorem cX12_canAsk_ {Q : Bool → Prop} {l0 : Nat} {l1 : Int32} {M : Mem} (hk_l0 : SHk l0 = 12) (h : FX12_canAsk Q l0 l1 M) : xM yX12_canAsk cX12_canAsk 2 (some .boolean) 2 [.ref l0, .int l1] M (xQb (xP M Q)) := xM_of (by decide +kernel) (Nat.le_of_ble_eq_true rfl) (eX12_canAsk hk_l0 h)
theorem kX12_canAsk {own : String} {cc : ByteArray} {nL : Nat} {rt : Option FieldType} {d pc ix : Nat} {L : List (Nat × Value)} {st : List Value} {M : Mem} {Rt : xGt → Array Value → State → Outcome → State → Prop} {Q : Bool → Prop} {l0 : Nat} {l1 : Int32} (hd : decode cc pc = .ok (.invokevirtual ix, 3)) (q : Nat) (hq : pc + 3 = q) (hk_l0 : SHk l0 = 12) (w1 : Cond.methodLink own ix yX12_canAsk ∈ xTs) (hr : 2 < d) (hst : (st.map fun v => v.category).sum ≤ 8) (h : FX12_canAsk Q l0 l1 M) (k : ∀ (r : Bool), Q r → xX own cc nL rt d q L (.int (bI r) :: st) M Rt) : xX own cc nL rt d pc L (.int l1 :: .ref l0 :: st) M Rt :=
  x_callV_b (n := 1) (As := [.int l1]) hd q hq hk_l0 (by decide) rfl rfl w1 kw7_0 ks5_3 kw1_14 kw7_1 (by decide +kernel) rfl hr (by decide) hst _ rfl (cX12_canAsk_ hk_l0 h) (fun r N hN => by obtain ⟨rfl, hN⟩ := hN; exact k r hN)
def NX12_readUnit_71 (Q : Int32 → Mem → Prop) (l0 : Nat) (s0 : Nat) (s1 : Int32) (s2 : Int32) (M : Mem) : Prop :=
  FX12_emits (fun (M1 : Mem) => FX12_reads (fun (M2 : Mem) => Q 0 M2) l0 M1) s0 s1 s2 M
theorem nX12_readUnit_71 {Q : Int32 → Mem → Prop} {l0 : Nat} {s0 : Nat} {s1 : Int32} {s2 : Int32} {M : Mem} (hk_l0 : SHk l0 = 12) (hk_s0 : SHk s0 = 12) (h : NX12_readUnit_71 Q l0 s0 s1 s2 M) : xX RX12 cX12_readUnit 2 (some .int) 4 71 [(0, .ref l0)] [.int s2, .int s1, .ref s0] M (xQi Q) := by
  unfold NX12_readUnit_71 at h
  refine kX12_emits dX12_readUnit_71 74 rfl hk_s0 kw7_2 (Nat.le_of_ble_eq_true rfl) (Nat.le_of_ble_eq_true rfl) h (fun M1 h => ?_)
  refine x_aload_n dX12_readUnit_74 rfl 75 rfl ?_
  refine kX12_reads dX12_readUnit_75 78 rfl hk_l0 kw6_146 (Nat.le_of_ble_eq_true rfl) (Nat.le_of_ble_eq_true rfl) h (fun M2 h => ?_)
  refine x_iconst dX12_readUnit_78 kc_0 79 rfl ?_
  exact x_iret dX12_readUnit_79 h
def NX12_readUnit_53 (Q : Int32 → Mem → Prop) (l0 : Nat) (l1 : Int32) (s0 : Nat) (s1 : Int32) (M : Mem) : Prop :=
  ((l1 = 0 → NX12_readUnit_71 Q l0 s0 s1 (M l0 15) M) ∧ (¬ l1 = 0 → NX12_readUnit_71 Q l0 s0 s1 ((M l0 15) - 7) M))
theorem nX12_readUnit_53 {Q : Int32 → Mem → Prop} {l0 : Nat} {l1 : Int32} {s0 : Nat} {s1 : Int32} {M : Mem} (hk_l0 : SHk l0 = 12) (hk_s0 : SHk s0 = 12) (h : NX12_readUnit_53 Q l0 l1 s0 s1 M) : xX RX12 cX12_readUnit 2 (some .int) 4 53 [(0, .ref l0), (1, .int l1)] [.int s1, .ref s0] M (xQi Q) := by
  unfold NX12_readUnit_53 at h
  refine x_iload_n dX12_readUnit_53 rfl 54 rfl ?_
  refine x_if_eq dX12_readUnit_54 67 57 rfl rfl (fun hc => ?_) (fun hc => ?_)
  · have h := h.1 hc
    refine x_aload_n dX12_readUnit_67 rfl 68 rfl ?_
    refine gf12_15 dX12_readUnit_68 71 rfl hk_l0 kw5_174 ?_
    refine x_weak [(0, .ref l0)] [0] rfl ?_
    exact nX12_readUnit_71 hk_l0 hk_s0 h
  · have h := h.2 hc
    refine x_aload_n dX12_readUnit_57 rfl 58 rfl ?_
    refine gf12_15 dX12_readUnit_58 61 rfl hk_l0 kw5_174 ?_
    refine x_bipush dX12_readUnit_61 kb_7 63 rfl ?_
    refine x_isub dX12_readUnit_63 64 rfl ?_
    refine x_goto dX12_readUnit_64 71 rfl ?_
    refine x_weak [(0, .ref l0)] [0] rfl ?_
    exact nX12_readUnit_71 hk_l0 hk_s0 h
def NX12_readUnit_43 (Q : Int32 → Mem → Prop) (l0 : Nat) (l1 : Int32) (M : Mem) : Prop :=
  ((l1 = 0 → NX12_readUnit_53 Q l0 l1 l0 0 M) ∧ (¬ l1 = 0 → NX12_readUnit_53 Q l0 l1 l0 1 M))
theorem nX12_readUnit_43 {Q : Int32 → Mem → Prop} {l0 : Nat} {l1 : Int32} {M : Mem} (hk_l0 : SHk l0 = 12) (h : NX12_readUnit_43 Q l0 l1 M) : xX RX12 cX12_readUnit 2 (some .int) 4 43 [(0, .ref l0), (1, .int l1)] [] M (xQi Q) := by
  unfold NX12_readUnit_43 at h
  refine x_aload_n dX12_readUnit_43 rfl 44 rfl ?_
  refine x_iload_n dX12_readUnit_44 rfl 45 rfl ?_
  refine x_if_eq dX12_readUnit_45 52 48 rfl rfl (fun hc => ?_) (fun hc => ?_)
  · have h := h.1 hc
    refine x_iconst dX12_readUnit_52 kc_0 53 rfl ?_
    exact nX12_readUnit_53 hk_l0 hk_l0 h
  · have h := h.2 hc
    refine x_iconst dX12_readUnit_48 kc_1 49 rfl ?_
    refine x_goto dX12_readUnit_49 53 rfl ?_
    exact nX12_readUnit_53 hk_l0 hk_l0 h
def NX12_readUnit_24 (Q : Int32 → Mem → Prop) (l0 : Nat) (s0 : Int32) (M : Mem) : Prop :=
  ((¬ s0 = 0 → NX12_readUnit_43 Q l0 s0 M) ∧ (s0 = 0 → (((M l0 14) = 3 → NX12_readUnit_43 Q l0 s0 M) ∧ (¬ (M l0 14) = 3 → FX12_errs (fun (r4 : Int32) (M3 : Mem) => Q r4 M3) l0 1 M))))
theorem nX12_readUnit_24 {Q : Int32 → Mem → Prop} {l0 : Nat} {s0 : Int32} {M : Mem} (hk_l0 : SHk l0 = 12) (h : NX12_readUnit_24 Q l0 s0 M) : xX RX12 cX12_readUnit 2 (some .int) 4 24 [(0, .ref l0)] [.int s0] M (xQi Q) := by
  unfold NX12_readUnit_24 at h
  refine x_istore_n dX12_readUnit_24 (Nat.le_of_ble_eq_true rfl) [(0, .ref l0), (1, .int s0)] rfl 25 rfl ?_
  refine x_iload_n dX12_readUnit_25 rfl 26 rfl ?_
  refine x_if_ne dX12_readUnit_26 43 29 rfl rfl (fun hc => ?_) (fun hc => ?_)
  · have h := h.1 hc
    exact nX12_readUnit_43 hk_l0 h
  · have h := h.2 hc
    refine x_aload_n dX12_readUnit_29 rfl 30 rfl ?_
    refine gf12_14 dX12_readUnit_30 33 rfl hk_l0 kw5_173 ?_
    refine x_iconst dX12_readUnit_33 kc_3 34 rfl ?_
    refine x_icmp_eq dX12_readUnit_34 43 37 rfl rfl (fun hc => ?_) (fun hc => ?_)
    · have h := h.1 hc
      exact nX12_readUnit_43 hk_l0 h
    · have h := h.2 hc
      refine x_aload_n dX12_readUnit_37 rfl 38 rfl ?_
      refine x_iconst dX12_readUnit_38 kc_1 39 rfl ?_
      refine kX12_errs dX12_readUnit_39 42 rfl hk_l0 kw6_178 (Nat.le_of_ble_eq_true rfl) (Nat.le_of_ble_eq_true rfl) h (fun r4 M3 h => ?_)
      exact x_iret dX12_readUnit_42 h
def NX12_readUnit_23 (Q : Int32 → Mem → Prop) (l0 : Nat) (M : Mem) : Prop :=
  NX12_readUnit_24 Q l0 0 M
theorem nX12_readUnit_23 {Q : Int32 → Mem → Prop} {l0 : Nat} {M : Mem} (hk_l0 : SHk l0 = 12) (h : NX12_readUnit_23 Q l0 M) : xX RX12 cX12_readUnit 2 (some .int) 4 23 [(0, .ref l0)] [] M (xQi Q) := by
  unfold NX12_readUnit_23 at h
  refine x_iconst dX12_readUnit_23 kc_0 24 rfl ?_
  exact nX12_readUnit_24 hk_l0 h
def FX12_readUnit (Q : Int32 → Mem → Prop) (l0 : Nat) (M : Mem) : Prop :=
  ((¬ (M l0 14) = 2 → NX12_readUnit_23 Q l0 M) ∧ ((M l0 14) = 2 → FX12_canAsk (fun (r5 : Bool) => ((r5 = false → NX12_readUnit_23 Q l0 M) ∧ (r5 = true → NX12_readUnit_24 Q l0 1 M))) l0 (M l0 15) M))
theorem eX12_readUnit {Q : Int32 → Mem → Prop} {l0 : Nat} {M : Mem} (hk_l0 : SHk l0 = 12) (h : FX12_readUnit Q l0 M) : xX RX12 cX12_readUnit 2 (some .int) 4 0 [(0, .ref l0)] [] M (xQi Q) := by
  unfold FX12_readUnit at h
  refine x_aload_n dX12_readUnit_0 rfl 1 rfl ?_
  refine gf12_14 dX12_readUnit_1 4 rfl hk_l0 kw5_173 ?_
  refine x_iconst dX12_readUnit_4 kc_2 5 rfl ?_
  refine x_icmp_ne dX12_readUnit_5 23 8 rfl rfl (fun hc => ?_) (fun hc => ?_)
  · have h := h.1 hc
    exact nX12_readUnit_23 hk_l0 h
  · have h := h.2 hc
    refine x_aload_n dX12_readUnit_8 rfl 9 rfl ?_
    refine x_aload_n dX12_readUnit_9 rfl 10 rfl ?_
    refine gf12_15 dX12_readUnit_10 13 rfl hk_l0 kw5_174 ?_
    refine kX12_canAsk dX12_readUnit_13 16 rfl hk_l0 kw6_238 (Nat.le_of_ble_eq_true rfl) (Nat.le_of_ble_eq_true rfl) h (fun r5 h => ?_)
    refine x_if_eq_b dX12_readUnit_16 23 19 rfl rfl (fun hc => ?_) (fun hc => ?_)
    · have h := h.1 hc
      exact nX12_readUnit_23 hk_l0 h
    · have h := h.2 hc
      refine x_iconst dX12_readUnit_19 kc_1 20 rfl ?_
      refine x_goto dX12_readUnit_20 24 rfl ?_
      exact nX12_readUnit_24 hk_l0 h
theorem cX12_readUnit_ {Q : Int32 → Mem → Prop} {l0 : Nat} {M : Mem} (hk_l0 : SHk l0 = 12) (h : FX12_readUnit Q l0 M) : xM yX12_readUnit cX12_readUnit 2 (some .int) 4 [.ref l0] M (xQi Q) := xM_of (by decide +kernel) (Nat.le_of_ble_eq_true rfl) (eX12_readUnit hk_l0 h)
theorem kX12_readUnit {own : String} {cc : ByteArray} {nL : Nat} {rt : Option FieldType} {d pc ix : Nat} {L : List (Nat × Value)} {st : List Value} {M : Mem} {Rt : xGt → Array Value → State → Outcome → State → Prop} {Q : Int32 → Mem → Prop} {l0 : Nat} (hd : decode cc pc = .ok (.invokevirtual ix, 3)) (q : Nat) (hq : pc + 3 = q) (hk_l0 : SHk l0 = 12) (w1 : Cond.methodLink own ix yX12_readUnit ∈ xTs) (hr : 4 < d) (hst : (st.map fun v => v.category).sum ≤ 8) (h : FX12_readUnit Q l0 M) (k : ∀ (r : Int32) (N : Mem), Q r N → xX own cc nL rt d q L (.int r :: st) N Rt) : xX own cc nL rt d pc L (.ref l0 :: st) M Rt :=
  x_callV_i (n := 0) (As := []) hd q hq hk_l0 (by decide) rfl rfl w1 kw6_236 ks5_2 kw1_14 kw6_237 (by decide +kernel) rfl hr (by decide) hst _ rfl (cX12_readUnit_ hk_l0 h) k
def NX12_readProduct_94 (Q : Int32 → Mem → Prop) (B10 : Mem → Prop) (l0 : Nat) (s0 : Nat) (s1 : Int32) (M : Mem) : Prop :=
  FX12_emits (fun (M1 : Mem) => B10 M1) s0 s1 0 M
theorem nX12_readProduct_94 {Q : Int32 → Mem → Prop} {B10 : Mem → Prop} {l0 : Nat} {s0 : Nat} {s1 : Int32} {M : Mem} (hB10 : ∀ (M : Mem), B10 M → xX RX12 cX12_readProduct 2 (some .int) 5 10 [(0, .ref l0)] [] M (xQi Q)) (hk_l0 : SHk l0 = 12) (hk_s0 : SHk s0 = 12) (h : NX12_readProduct_94 Q B10 l0 s0 s1 M) : xX RX12 cX12_readProduct 2 (some .int) 5 94 [(0, .ref l0)] [.int s1, .ref s0] M (xQi Q) := by
  unfold NX12_readProduct_94 at h
  refine x_iconst dX12_readProduct_94 kc_0 95 rfl ?_
  refine kX12_emits dX12_readProduct_95 98 rfl hk_s0 kw7_2 (Nat.le_of_ble_eq_true rfl) (Nat.le_of_ble_eq_true rfl) h (fun M1 h => ?_)
  refine x_goto dX12_readProduct_98 10 rfl ?_
  exact hB10 _ h
def NX12_readProduct_74 (Q : Int32 → Mem → Prop) (B10 : Mem → Prop) (l0 : Nat) (l1 : Int32) (M : Mem) : Prop :=
  FX12_readUnit (fun (r3 : Int32) (M2 : Mem) => ((¬ r3 = (-1) → ((l1 = 0 → NX12_readProduct_94 Q B10 l0 l0 5 M2) ∧ (¬ l1 = 0 → NX12_readProduct_94 Q B10 l0 l0 4 M2))) ∧ (r3 = (-1) → Q (-1) M2))) l0 M
theorem nX12_readProduct_74 {Q : Int32 → Mem → Prop} {B10 : Mem → Prop} {l0 : Nat} {l1 : Int32} {M : Mem} (hB10 : ∀ (M : Mem), B10 M → xX RX12 cX12_readProduct 2 (some .int) 5 10 [(0, .ref l0)] [] M (xQi Q)) (hk_l0 : SHk l0 = 12) (h : NX12_readProduct_74 Q B10 l0 l1 M) : xX RX12 cX12_readProduct 2 (some .int) 5 74 [(0, .ref l0), (1, .int l1)] [] M (xQi Q) := by
  unfold NX12_readProduct_74 at h
  refine x_aload_n dX12_readProduct_74 rfl 75 rfl ?_
  refine kX12_readUnit dX12_readProduct_75 78 rfl hk_l0 kw6_234 (Nat.le_of_ble_eq_true rfl) (Nat.le_of_ble_eq_true rfl) h (fun r3 M2 h => ?_)
  refine x_iconst dX12_readProduct_78 kc_m1 79 rfl ?_
  refine x_icmp_ne dX12_readProduct_79 84 82 rfl rfl (fun hc => ?_) (fun hc => ?_)
  · have h := h.1 hc
    refine x_aload_n dX12_readProduct_84 rfl 85 rfl ?_
    refine x_iload_n dX12_readProduct_85 rfl 86 rfl ?_
    refine x_if_eq dX12_readProduct_86 93 89 rfl rfl (fun hc => ?_) (fun hc => ?_)
    · have h := h.1 hc
      refine x_iconst dX12_readProduct_93 kc_5 94 rfl ?_
      refine x_weak [(0, .ref l0)] [0] rfl ?_
      exact nX12_readProduct_94 hB10 hk_l0 hk_l0 h
    · have h := h.2 hc
      refine x_iconst dX12_readProduct_89 kc_4 90 rfl ?_
      refine x_goto dX12_readProduct_90 94 rfl ?_
      refine x_weak [(0, .ref l0)] [0] rfl ?_
      exact nX12_readProduct_94 hB10 hk_l0 hk_l0 h
  · have h := h.2 hc
    refine x_iconst dX12_readProduct_82 kc_m1 83 rfl ?_
    exact x_iret dX12_readProduct_83 h
def NX12_readProduct_57 (Q : Int32 → Mem → Prop) (B10 : Mem → Prop) (l0 : Nat) (l1 : Int32) (M : Mem) : Prop :=
  ((¬ l1 = 0 → NX12_readProduct_74 Q B10 l0 l1 M) ∧ (l1 = 0 → ((¬ (M l0 15) = 0 → NX12_readProduct_74 Q B10 l0 l1 M) ∧ ((M l0 15) = 0 → FX12_errs (fun (r5 : Int32) (M4 : Mem) => Q r5 M4) l0 2 M))))
theorem nX12_readProduct_57 {Q : Int32 → Mem → Prop} {B10 : Mem → Prop} {l0 : Nat} {l1 : Int32} {M : Mem} (hB10 : ∀ (M : Mem), B10 M → xX RX12 cX12_readProduct 2 (some .int) 5 10 [(0, .ref l0)] [] M (xQi Q)) (hk_l0 : SHk l0 = 12) (h : NX12_readProduct_57 Q B10 l0 l1 M) : xX RX12 cX12_readProduct 2 (some .int) 5 57 [(0, .ref l0), (1, .int l1)] [] M (xQi Q) := by
  unfold NX12_readProduct_57 at h
  refine x_iload_n dX12_readProduct_57 rfl 58 rfl ?_
  refine x_if_ne dX12_readProduct_58 74 61 rfl rfl (fun hc => ?_) (fun hc => ?_)
  · have h := h.1 hc
    exact nX12_readProduct_74 hB10 hk_l0 h
  · have h := h.2 hc
    refine x_aload_n dX12_readProduct_61 rfl 62 rfl ?_
    refine gf12_15 dX12_readProduct_62 65 rfl hk_l0 kw5_174 ?_
    refine x_if_ne dX12_readProduct_65 74 68 rfl rfl (fun hc => ?_) (fun hc => ?_)
    · have h := h.1 hc
      exact nX12_readProduct_74 hB10 hk_l0 h
    · have h := h.2 hc
      refine x_aload_n dX12_readProduct_68 rfl 69 rfl ?_
      refine x_iconst dX12_readProduct_69 kc_2 70 rfl ?_
      refine kX12_errs dX12_readProduct_70 73 rfl hk_l0 kw6_178 (Nat.le_of_ble_eq_true rfl) (Nat.le_of_ble_eq_true rfl) h (fun r5 M4 h => ?_)
      exact x_iret dX12_readProduct_73 h
def NX12_readProduct_28 (Q : Int32 → Mem → Prop) (B10 : Mem → Prop) (l0 : Nat) (M : Mem) : Prop :=
  FX12_isSign (fun (r6 : Bool) => FX12_reads (fun (M7 : Mem) => ((¬ (bI r6) = 0 → NX12_readProduct_57 Q B10 l0 (bI r6) M7) ∧ ((bI r6) = 0 → (((M7 l0 14) = 3 → NX12_readProduct_57 Q B10 l0 (bI r6) M7) ∧ (¬ (M7 l0 14) = 3 → FX12_errs (fun (r9 : Int32) (M8 : Mem) => Q r9 M8) l0 1 M7))))) l0 M) l0 42 M
theorem nX12_readProduct_28 {Q : Int32 → Mem → Prop} {B10 : Mem → Prop} {l0 : Nat} {M : Mem} (hB10 : ∀ (M : Mem), B10 M → xX RX12 cX12_readProduct 2 (some .int) 5 10 [(0, .ref l0)] [] M (xQi Q)) (hk_l0 : SHk l0 = 12) (h : NX12_readProduct_28 Q B10 l0 M) : xX RX12 cX12_readProduct 2 (some .int) 5 28 [(0, .ref l0)] [] M (xQi Q) := by
  unfold NX12_readProduct_28 at h
  refine x_aload_n dX12_readProduct_28 rfl 29 rfl ?_
  refine x_bipush dX12_readProduct_29 kb_42 31 rfl ?_
  refine kX12_isSign dX12_readProduct_31 34 rfl hk_l0 kw6_194 (Nat.le_of_ble_eq_true rfl) (Nat.le_of_ble_eq_true rfl) h (fun r6 h => ?_)
  refine x_istore_n dX12_readProduct_34 (Nat.le_of_ble_eq_true rfl) [(0, .ref l0), (1, .int (bI r6))] rfl 35 rfl ?_
  refine x_aload_n dX12_readProduct_35 rfl 36 rfl ?_
  refine kX12_reads dX12_readProduct_36 39 rfl hk_l0 kw6_146 (Nat.le_of_ble_eq_true rfl) (Nat.le_of_ble_eq_true rfl) h (fun M7 h => ?_)
  refine x_iload_n dX12_readProduct_39 rfl 40 rfl ?_
  refine x_if_ne dX12_readProduct_40 57 43 rfl rfl (fun hc => ?_) (fun hc => ?_)
  · have h := h.1 hc
    exact nX12_readProduct_57 hB10 hk_l0 h
  · have h := h.2 hc
    refine x_aload_n dX12_readProduct_43 rfl 44 rfl ?_
    refine gf12_14 dX12_readProduct_44 47 rfl hk_l0 kw5_173 ?_
    refine x_iconst dX12_readProduct_47 kc_3 48 rfl ?_
    refine x_icmp_eq dX12_readProduct_48 57 51 rfl rfl (fun hc => ?_) (fun hc => ?_)
    · have h := h.1 hc
      exact nX12_readProduct_57 hB10 hk_l0 h
    · have h := h.2 hc
      refine x_aload_n dX12_readProduct_51 rfl 52 rfl ?_
      refine x_iconst dX12_readProduct_52 kc_1 53 rfl ?_
      refine kX12_errs dX12_readProduct_53 56 rfl hk_l0 kw6_178 (Nat.le_of_ble_eq_true rfl) (Nat.le_of_ble_eq_true rfl) h (fun r9 M8 h => ?_)
      exact x_iret dX12_readProduct_56 h
def lbX12_readProduct_10 (Q : Int32 → Mem → Prop) (l0 : Nat) (B10 : Mem → Prop) (M : Mem) : Prop :=
  FX12_isSign (fun (r10 : Bool) => ((r10 = true → NX12_readProduct_28 Q B10 l0 M) ∧ (r10 = false → FX12_isSign (fun (r11 : Bool) => ((r11 = false → Q 0 M) ∧ (r11 = true → NX12_readProduct_28 Q B10 l0 M))) l0 47 M))) l0 42 M
def NX12_readProduct_10 (Q : Int32 → Mem → Prop) (l0 : Nat) (M : Mem) : Prop := xlp (fun (B : Mem → Prop) a => lbX12_readProduct_10 Q l0 (fun M => B (M)) a) (M)
theorem nX12_readProduct_10 {Q : Int32 → Mem → Prop} {l0 : Nat} {M : Mem} (hk_l0 : SHk l0 = 12) (h : NX12_readProduct_10 Q l0 M) : xX RX12 cX12_readProduct 2 (some .int) 5 10 [(0, .ref l0)] [] M (xQi Q) := by
  obtain ⟨n, h⟩ := h
  have hB10 : ∀ (n : Nat) (M : Mem), xlpn (fun (B : Mem → Prop) a => lbX12_readProduct_10 Q l0 (fun M => B (M)) a) n (M) → xX RX12 cX12_readProduct 2 (some .int) 5 10 [(0, .ref l0)] [] M (xQi Q) := by
    intro n
    induction n with
    | zero => intro M h; exact False.elim h
    | succ n ih =>
      intro M h
      have hB10 := ih
      have h : lbX12_readProduct_10 Q l0 (fun M => xlpn (fun (B : Mem → Prop) a => lbX12_readProduct_10 Q l0 (fun M => B (M)) a) n (M)) M := h
      unfold lbX12_readProduct_10 at h
      refine x_aload_n dX12_readProduct_10 rfl 11 rfl ?_
      refine x_bipush dX12_readProduct_11 kb_42 13 rfl ?_
      refine kX12_isSign dX12_readProduct_13 16 rfl hk_l0 kw6_194 (Nat.le_of_ble_eq_true rfl) (Nat.le_of_ble_eq_true rfl) h (fun r10 h => ?_)
      refine x_if_ne_b dX12_readProduct_16 28 19 rfl rfl (fun hc => ?_) (fun hc => ?_)
      · have h := h.1 hc
        exact nX12_readProduct_28 hB10 hk_l0 h
      · have h := h.2 hc
        refine x_aload_n dX12_readProduct_19 rfl 20 rfl ?_
        refine x_bipush dX12_readProduct_20 kb_47 22 rfl ?_
        refine kX12_isSign dX12_readProduct_22 25 rfl hk_l0 kw6_194 (Nat.le_of_ble_eq_true rfl) (Nat.le_of_ble_eq_true rfl) h (fun r11 h => ?_)
        refine x_if_eq_b dX12_readProduct_25 101 28 rfl rfl (fun hc => ?_) (fun hc => ?_)
        · have h := h.1 hc
          refine x_iconst dX12_readProduct_101 kc_0 102 rfl ?_
          exact x_iret dX12_readProduct_102 h
        · have h := h.2 hc
          exact nX12_readProduct_28 hB10 hk_l0 h
  exact hB10 n M h
def FX12_readProduct (Q : Int32 → Mem → Prop) (l0 : Nat) (M : Mem) : Prop :=
  FX12_readUnit (fun (r13 : Int32) (M12 : Mem) => ((¬ r13 = (-1) → NX12_readProduct_10 Q l0 M12) ∧ (r13 = (-1) → Q (-1) M12))) l0 M
theorem eX12_readProduct {Q : Int32 → Mem → Prop} {l0 : Nat} {M : Mem} (hk_l0 : SHk l0 = 12) (h : FX12_readProduct Q l0 M) : xX RX12 cX12_readProduct 2 (some .int) 5 0 [(0, .ref l0)] [] M (xQi Q) := by
  unfold FX12_readProduct at h
  refine x_aload_n dX12_readProduct_0 rfl 1 rfl ?_
  refine kX12_readUnit dX12_readProduct_1 4 rfl hk_l0 kw6_234 (Nat.le_of_ble_eq_true rfl) (Nat.le_of_ble_eq_true rfl) h (fun r13 M12 h => ?_)
  refine x_iconst dX12_readProduct_4 kc_m1 5 rfl ?_
  refine x_icmp_ne dX12_readProduct_5 10 8 rfl rfl (fun hc => ?_) (fun hc => ?_)
  · have h := h.1 hc
    exact nX12_readProduct_10 hk_l0 h
  · have h := h.2 hc
    refine x_iconst dX12_readProduct_8 kc_m1 9 rfl ?_
    exact x_iret dX12_readProduct_9 h
theorem cX12_readProduct_ {Q : Int32 → Mem → Prop} {l0 : Nat} {M : Mem} (hk_l0 : SHk l0 = 12) (h : FX12_readProduct Q l0 M) : xM yX12_readProduct cX12_readProduct 2 (some .int) 5 [.ref l0] M (xQi Q) := xM_of (by decide +kernel) (Nat.le_of_ble_eq_true rfl) (eX12_readProduct hk_l0 h)
theorem kX12_readProduct {own : String} {cc : ByteArray} {nL : Nat} {rt : Option FieldType} {d pc ix : Nat} {L : List (Nat × Value)} {st : List Value} {M : Mem} {Rt : xGt → Array Value → State → Outcome → State → Prop} {Q : Int32 → Mem → Prop} {l0 : Nat} (hd : decode cc pc = .ok (.invokevirtual ix, 3)) (q : Nat) (hq : pc + 3 = q) (hk_l0 : SHk l0 = 12) (w1 : Cond.methodLink own ix yX12_readProduct ∈ xTs) (hr : 5 < d) (hst : (st.map fun v => v.category).sum ≤ 8) (h : FX12_readProduct Q l0 M) (k : ∀ (r : Int32) (N : Mem), Q r N → xX own cc nL rt d q L (.int r :: st) N Rt) : xX own cc nL rt d pc L (.ref l0 :: st) M Rt :=
  x_callV_i (n := 0) (As := []) hd q hq hk_l0 (by decide) rfl rfl w1 kw6_232 ks5_1 kw1_14 kw6_233 (by decide +kernel) rfl hr (by decide) hst _ rfl (cX12_readProduct_ hk_l0 h) k
def NX12_readSum_42 (Q : Int32 → Mem → Prop) (B10 : Mem → Prop) (l0 : Nat) (s0 : Int32) (M : Mem) : Prop :=
  FX12_reads (fun (M1 : Mem) => FX12_readProduct (fun (r3 : Int32) (M2 : Mem) => ((¬ r3 = (-1) → FX12_emits (fun (M4 : Mem) => B10 M4) l0 s0 0 M2) ∧ (r3 = (-1) → Q (-1) M2))) l0 M1) l0 M
theorem nX12_readSum_42 {Q : Int32 → Mem → Prop} {B10 : Mem → Prop} {l0 : Nat} {s0 : Int32} {M : Mem} (hB10 : ∀ (M : Mem), B10 M → xX RX12 cX12_readSum 2 (some .int) 6 10 [(0, .ref l0)] [] M (xQi Q)) (hk_l0 : SHk l0 = 12) (h : NX12_readSum_42 Q B10 l0 s0 M) : xX RX12 cX12_readSum 2 (some .int) 6 42 [(0, .ref l0)] [.int s0] M (xQi Q) := by
  unfold NX12_readSum_42 at h
  refine x_istore_n dX12_readSum_42 (Nat.le_of_ble_eq_true rfl) [(0, .ref l0), (1, .int s0)] rfl 43 rfl ?_
  refine x_aload_n dX12_readSum_43 rfl 44 rfl ?_
  refine kX12_reads dX12_readSum_44 47 rfl hk_l0 kw6_146 (Nat.le_of_ble_eq_true rfl) (Nat.le_of_ble_eq_true rfl) h (fun M1 h => ?_)
  refine x_aload_n dX12_readSum_47 rfl 48 rfl ?_
  refine kX12_readProduct dX12_readSum_48 51 rfl hk_l0 kw6_230 (Nat.le_of_ble_eq_true rfl) (Nat.le_of_ble_eq_true rfl) h (fun r3 M2 h => ?_)
  refine x_iconst dX12_readSum_51 kc_m1 52 rfl ?_
  refine x_icmp_ne dX12_readSum_52 57 55 rfl rfl (fun hc => ?_) (fun hc => ?_)
  · have h := h.1 hc
    refine x_aload_n dX12_readSum_57 rfl 58 rfl ?_
    refine x_iload_n dX12_readSum_58 rfl 59 rfl ?_
    refine x_iconst dX12_readSum_59 kc_0 60 rfl ?_
    refine kX12_emits dX12_readSum_60 63 rfl hk_l0 kw7_2 (Nat.le_of_ble_eq_true rfl) (Nat.le_of_ble_eq_true rfl) h (fun M4 h => ?_)
    refine x_goto dX12_readSum_63 10 rfl ?_
    refine x_weak [(0, .ref l0)] [0] rfl ?_
    exact hB10 _ h
  · have h := h.2 hc
    refine x_iconst dX12_readSum_55 kc_m1 56 rfl ?_
    exact x_iret dX12_readSum_56 h
def NX12_readSum_28 (Q : Int32 → Mem → Prop) (B10 : Mem → Prop) (l0 : Nat) (M : Mem) : Prop :=
  ((¬ (M l0 15) = 43 → NX12_readSum_42 Q B10 l0 3 M) ∧ ((M l0 15) = 43 → NX12_readSum_42 Q B10 l0 2 M))
theorem nX12_readSum_28 {Q : Int32 → Mem → Prop} {B10 : Mem → Prop} {l0 : Nat} {M : Mem} (hB10 : ∀ (M : Mem), B10 M → xX RX12 cX12_readSum 2 (some .int) 6 10 [(0, .ref l0)] [] M (xQi Q)) (hk_l0 : SHk l0 = 12) (h : NX12_readSum_28 Q B10 l0 M) : xX RX12 cX12_readSum 2 (some .int) 6 28 [(0, .ref l0)] [] M (xQi Q) := by
  unfold NX12_readSum_28 at h
  refine x_aload_n dX12_readSum_28 rfl 29 rfl ?_
  refine gf12_15 dX12_readSum_29 32 rfl hk_l0 kw5_174 ?_
  refine x_bipush dX12_readSum_32 kb_43 34 rfl ?_
  refine x_icmp_ne dX12_readSum_34 41 37 rfl rfl (fun hc => ?_) (fun hc => ?_)
  · have h := h.1 hc
    refine x_iconst dX12_readSum_41 kc_3 42 rfl ?_
    exact nX12_readSum_42 hB10 hk_l0 h
  · have h := h.2 hc
    refine x_iconst dX12_readSum_37 kc_2 38 rfl ?_
    refine x_goto dX12_readSum_38 42 rfl ?_
    exact nX12_readSum_42 hB10 hk_l0 h
def lbX12_readSum_10 (Q : Int32 → Mem → Prop) (l0 : Nat) (B10 : Mem → Prop) (M : Mem) : Prop :=
  FX12_isSign (fun (r5 : Bool) => ((r5 = true → NX12_readSum_28 Q B10 l0 M) ∧ (r5 = false → FX12_isSign (fun (r6 : Bool) => ((r6 = false → Q 0 M) ∧ (r6 = true → NX12_readSum_28 Q B10 l0 M))) l0 45 M))) l0 43 M
def NX12_readSum_10 (Q : Int32 → Mem → Prop) (l0 : Nat) (M : Mem) : Prop := xlp (fun (B : Mem → Prop) a => lbX12_readSum_10 Q l0 (fun M => B (M)) a) (M)
theorem nX12_readSum_10 {Q : Int32 → Mem → Prop} {l0 : Nat} {M : Mem} (hk_l0 : SHk l0 = 12) (h : NX12_readSum_10 Q l0 M) : xX RX12 cX12_readSum 2 (some .int) 6 10 [(0, .ref l0)] [] M (xQi Q) := by
  obtain ⟨n, h⟩ := h
  have hB10 : ∀ (n : Nat) (M : Mem), xlpn (fun (B : Mem → Prop) a => lbX12_readSum_10 Q l0 (fun M => B (M)) a) n (M) → xX RX12 cX12_readSum 2 (some .int) 6 10 [(0, .ref l0)] [] M (xQi Q) := by
    intro n
    induction n with
    | zero => intro M h; exact False.elim h
    | succ n ih =>
      intro M h
      have hB10 := ih
      have h : lbX12_readSum_10 Q l0 (fun M => xlpn (fun (B : Mem → Prop) a => lbX12_readSum_10 Q l0 (fun M => B (M)) a) n (M)) M := h
      unfold lbX12_readSum_10 at h
      refine x_aload_n dX12_readSum_10 rfl 11 rfl ?_
      refine x_bipush dX12_readSum_11 kb_43 13 rfl ?_
      refine kX12_isSign dX12_readSum_13 16 rfl hk_l0 kw6_194 (Nat.le_of_ble_eq_true rfl) (Nat.le_of_ble_eq_true rfl) h (fun r5 h => ?_)
      refine x_if_ne_b dX12_readSum_16 28 19 rfl rfl (fun hc => ?_) (fun hc => ?_)
      · have h := h.1 hc
        exact nX12_readSum_28 hB10 hk_l0 h
      · have h := h.2 hc
        refine x_aload_n dX12_readSum_19 rfl 20 rfl ?_
        refine x_bipush dX12_readSum_20 kb_45 22 rfl ?_
        refine kX12_isSign dX12_readSum_22 25 rfl hk_l0 kw6_194 (Nat.le_of_ble_eq_true rfl) (Nat.le_of_ble_eq_true rfl) h (fun r6 h => ?_)
        refine x_if_eq_b dX12_readSum_25 66 28 rfl rfl (fun hc => ?_) (fun hc => ?_)
        · have h := h.1 hc
          refine x_iconst dX12_readSum_66 kc_0 67 rfl ?_
          exact x_iret dX12_readSum_67 h
        · have h := h.2 hc
          exact nX12_readSum_28 hB10 hk_l0 h
  exact hB10 n M h
def FX12_readSum (Q : Int32 → Mem → Prop) (l0 : Nat) (M : Mem) : Prop :=
  FX12_readProduct (fun (r8 : Int32) (M7 : Mem) => ((¬ r8 = (-1) → NX12_readSum_10 Q l0 M7) ∧ (r8 = (-1) → Q (-1) M7))) l0 M
theorem eX12_readSum {Q : Int32 → Mem → Prop} {l0 : Nat} {M : Mem} (hk_l0 : SHk l0 = 12) (h : FX12_readSum Q l0 M) : xX RX12 cX12_readSum 2 (some .int) 6 0 [(0, .ref l0)] [] M (xQi Q) := by
  unfold FX12_readSum at h
  refine x_aload_n dX12_readSum_0 rfl 1 rfl ?_
  refine kX12_readProduct dX12_readSum_1 4 rfl hk_l0 kw6_230 (Nat.le_of_ble_eq_true rfl) (Nat.le_of_ble_eq_true rfl) h (fun r8 M7 h => ?_)
  refine x_iconst dX12_readSum_4 kc_m1 5 rfl ?_
  refine x_icmp_ne dX12_readSum_5 10 8 rfl rfl (fun hc => ?_) (fun hc => ?_)
  · have h := h.1 hc
    exact nX12_readSum_10 hk_l0 h
  · have h := h.2 hc
    refine x_iconst dX12_readSum_8 kc_m1 9 rfl ?_
    exact x_iret dX12_readSum_9 h
theorem cX12_readSum_ {Q : Int32 → Mem → Prop} {l0 : Nat} {M : Mem} (hk_l0 : SHk l0 = 12) (h : FX12_readSum Q l0 M) : xM yX12_readSum cX12_readSum 2 (some .int) 6 [.ref l0] M (xQi Q) := xM_of (by decide +kernel) (Nat.le_of_ble_eq_true rfl) (eX12_readSum hk_l0 h)
theorem kX12_readSum {own : String} {cc : ByteArray} {nL : Nat} {rt : Option FieldType} {d pc ix : Nat} {L : List (Nat × Value)} {st : List Value} {M : Mem} {Rt : xGt → Array Value → State → Outcome → State → Prop} {Q : Int32 → Mem → Prop} {l0 : Nat} (hd : decode cc pc = .ok (.invokevirtual ix, 3)) (q : Nat) (hq : pc + 3 = q) (hk_l0 : SHk l0 = 12) (w1 : Cond.methodLink own ix yX12_readSum ∈ xTs) (hr : 6 < d) (hst : (st.map fun v => v.category).sum ≤ 8) (h : FX12_readSum Q l0 M) (k : ∀ (r : Int32) (N : Mem), Q r N → xX own cc nL rt d q L (.int r :: st) N Rt) : xX own cc nL rt d pc L (.ref l0 :: st) M Rt :=
  x_callV_i (n := 0) (As := []) hd q hq hk_l0 (by decide) rfl rfl w1 kw6_228 ks5_0 kw1_14 kw6_229 (by decide +kernel) rfl hr (by decide) hst _ rfl (cX12_readSum_ hk_l0 h) k
def NX12_readCompared_73 (Q : Int32 → Mem → Prop) (l0 : Nat) (s0 : Int32) (M : Mem) : Prop :=
  FX12_reads (fun (M1 : Mem) => FX12_readSum (fun (r3 : Int32) (M2 : Mem) => ((¬ r3 = (-1) → FX12_emits (fun (M4 : Mem) => Q 0 M4) l0 s0 0 M2) ∧ (r3 = (-1) → Q (-1) M2))) l0 M1) l0 M
theorem nX12_readCompared_73 {Q : Int32 → Mem → Prop} {l0 : Nat} {s0 : Int32} {M : Mem} (hk_l0 : SHk l0 = 12) (h : NX12_readCompared_73 Q l0 s0 M) : xX RX12 cX12_readCompared 2 (some .int) 7 73 [(0, .ref l0)] [.int s0] M (xQi Q) := by
  unfold NX12_readCompared_73 at h
  refine x_istore_n dX12_readCompared_73 (Nat.le_of_ble_eq_true rfl) [(0, .ref l0), (1, .int s0)] rfl 74 rfl ?_
  refine x_aload_n dX12_readCompared_74 rfl 75 rfl ?_
  refine kX12_reads dX12_readCompared_75 78 rfl hk_l0 kw6_146 (Nat.le_of_ble_eq_true rfl) (Nat.le_of_ble_eq_true rfl) h (fun M1 h => ?_)
  refine x_aload_n dX12_readCompared_78 rfl 79 rfl ?_
  refine kX12_readSum dX12_readCompared_79 82 rfl hk_l0 kw6_226 (Nat.le_of_ble_eq_true rfl) (Nat.le_of_ble_eq_true rfl) h (fun r3 M2 h => ?_)
  refine x_iconst dX12_readCompared_82 kc_m1 83 rfl ?_
  refine x_icmp_ne dX12_readCompared_83 88 86 rfl rfl (fun hc => ?_) (fun hc => ?_)
  · have h := h.1 hc
    refine x_aload_n dX12_readCompared_88 rfl 89 rfl ?_
    refine x_iload_n dX12_readCompared_89 rfl 90 rfl ?_
    refine x_iconst dX12_readCompared_90 kc_0 91 rfl ?_
    refine kX12_emits dX12_readCompared_91 94 rfl hk_l0 kw7_2 (Nat.le_of_ble_eq_true rfl) (Nat.le_of_ble_eq_true rfl) h (fun M4 h => ?_)
    refine x_iconst dX12_readCompared_94 kc_0 95 rfl ?_
    exact x_iret dX12_readCompared_95 h
  · have h := h.2 hc
    refine x_iconst dX12_readCompared_86 kc_m1 87 rfl ?_
    exact x_iret dX12_readCompared_87 h
def NX12_readCompared_43 (Q : Int32 → Mem → Prop) (l0 : Nat) (M : Mem) : Prop :=
  ((¬ (M l0 15) = 60 → ((¬ (M l0 15) = 61 → NX12_readCompared_73 Q l0 8 M) ∧ ((M l0 15) = 61 → NX12_readCompared_73 Q l0 7 M))) ∧ ((M l0 15) = 60 → NX12_readCompared_73 Q l0 6 M))
theorem nX12_readCompared_43 {Q : Int32 → Mem → Prop} {l0 : Nat} {M : Mem} (hk_l0 : SHk l0 = 12) (h : NX12_readCompared_43 Q l0 M) : xX RX12 cX12_readCompared 2 (some .int) 7 43 [(0, .ref l0)] [] M (xQi Q) := by
  unfold NX12_readCompared_43 at h
  refine x_aload_n dX12_readCompared_43 rfl 44 rfl ?_
  refine gf12_15 dX12_readCompared_44 47 rfl hk_l0 kw5_174 ?_
  refine x_bipush dX12_readCompared_47 kb_60 49 rfl ?_
  refine x_icmp_ne dX12_readCompared_49 57 52 rfl rfl (fun hc => ?_) (fun hc => ?_)
  · have h := h.1 hc
    refine x_aload_n dX12_readCompared_57 rfl 58 rfl ?_
    refine gf12_15 dX12_readCompared_58 61 rfl hk_l0 kw5_174 ?_
    refine x_bipush dX12_readCompared_61 kb_61 63 rfl ?_
    refine x_icmp_ne dX12_readCompared_63 71 66 rfl rfl (fun hc => ?_) (fun hc => ?_)
    · have h := h.1 hc
      refine x_bipush dX12_readCompared_71 kb_8 73 rfl ?_
      exact nX12_readCompared_73 hk_l0 h
    · have h := h.2 hc
      refine x_bipush dX12_readCompared_66 kb_7 68 rfl ?_
      refine x_goto dX12_readCompared_68 73 rfl ?_
      exact nX12_readCompared_73 hk_l0 h
  · have h := h.2 hc
    refine x_bipush dX12_readCompared_52 kb_6 54 rfl ?_
    refine x_goto dX12_readCompared_54 73 rfl ?_
    exact nX12_readCompared_73 hk_l0 h
def FX12_readCompared (Q : Int32 → Mem → Prop) (l0 : Nat) (M : Mem) : Prop :=
  FX12_readSum (fun (r6 : Int32) (M5 : Mem) => ((¬ r6 = (-1) → FX12_isSign (fun (r7 : Bool) => ((r7 = true → NX12_readCompared_43 Q l0 M5) ∧ (r7 = false → FX12_isSign (fun (r8 : Bool) => ((r8 = true → NX12_readCompared_43 Q l0 M5) ∧ (r8 = false → FX12_isSign (fun (r9 : Bool) => ((r9 = true → NX12_readCompared_43 Q l0 M5) ∧ (r9 = false → FX12_errs (fun (r11 : Int32) (M10 : Mem) => Q r11 M10) l0 1 M5))) l0 62 M5))) l0 61 M5))) l0 60 M5) ∧ (r6 = (-1) → Q (-1) M5))) l0 M
theorem eX12_readCompared {Q : Int32 → Mem → Prop} {l0 : Nat} {M : Mem} (hk_l0 : SHk l0 = 12) (h : FX12_readCompared Q l0 M) : xX RX12 cX12_readCompared 2 (some .int) 7 0 [(0, .ref l0)] [] M (xQi Q) := by
  unfold FX12_readCompared at h
  refine x_aload_n dX12_readCompared_0 rfl 1 rfl ?_
  refine kX12_readSum dX12_readCompared_1 4 rfl hk_l0 kw6_226 (Nat.le_of_ble_eq_true rfl) (Nat.le_of_ble_eq_true rfl) h (fun r6 M5 h => ?_)
  refine x_iconst dX12_readCompared_4 kc_m1 5 rfl ?_
  refine x_icmp_ne dX12_readCompared_5 10 8 rfl rfl (fun hc => ?_) (fun hc => ?_)
  · have h := h.1 hc
    refine x_aload_n dX12_readCompared_10 rfl 11 rfl ?_
    refine x_bipush dX12_readCompared_11 kb_60 13 rfl ?_
    refine kX12_isSign dX12_readCompared_13 16 rfl hk_l0 kw6_194 (Nat.le_of_ble_eq_true rfl) (Nat.le_of_ble_eq_true rfl) h (fun r7 h => ?_)
    refine x_if_ne_b dX12_readCompared_16 43 19 rfl rfl (fun hc => ?_) (fun hc => ?_)
    · have h := h.1 hc
      exact nX12_readCompared_43 hk_l0 h
    · have h := h.2 hc
      refine x_aload_n dX12_readCompared_19 rfl 20 rfl ?_
      refine x_bipush dX12_readCompared_20 kb_61 22 rfl ?_
      refine kX12_isSign dX12_readCompared_22 25 rfl hk_l0 kw6_194 (Nat.le_of_ble_eq_true rfl) (Nat.le_of_ble_eq_true rfl) h (fun r8 h => ?_)
      refine x_if_ne_b dX12_readCompared_25 43 28 rfl rfl (fun hc => ?_) (fun hc => ?_)
      · have h := h.1 hc
        exact nX12_readCompared_43 hk_l0 h
      · have h := h.2 hc
        refine x_aload_n dX12_readCompared_28 rfl 29 rfl ?_
        refine x_bipush dX12_readCompared_29 kb_62 31 rfl ?_
        refine kX12_isSign dX12_readCompared_31 34 rfl hk_l0 kw6_194 (Nat.le_of_ble_eq_true rfl) (Nat.le_of_ble_eq_true rfl) h (fun r9 h => ?_)
        refine x_if_ne_b dX12_readCompared_34 43 37 rfl rfl (fun hc => ?_) (fun hc => ?_)
        · have h := h.1 hc
          exact nX12_readCompared_43 hk_l0 h
        · have h := h.2 hc
          refine x_aload_n dX12_readCompared_37 rfl 38 rfl ?_
          refine x_iconst dX12_readCompared_38 kc_1 39 rfl ?_
          refine kX12_errs dX12_readCompared_39 42 rfl hk_l0 kw6_178 (Nat.le_of_ble_eq_true rfl) (Nat.le_of_ble_eq_true rfl) h (fun r11 M10 h => ?_)
          exact x_iret dX12_readCompared_42 h
  · have h := h.2 hc
    refine x_iconst dX12_readCompared_8 kc_m1 9 rfl ?_
    exact x_iret dX12_readCompared_9 h
theorem cX12_readCompared_ {Q : Int32 → Mem → Prop} {l0 : Nat} {M : Mem} (hk_l0 : SHk l0 = 12) (h : FX12_readCompared Q l0 M) : xM yX12_readCompared cX12_readCompared 2 (some .int) 7 [.ref l0] M (xQi Q) := xM_of (by decide +kernel) (Nat.le_of_ble_eq_true rfl) (eX12_readCompared hk_l0 h)
theorem kX12_readCompared {own : String} {cc : ByteArray} {nL : Nat} {rt : Option FieldType} {d pc ix : Nat} {L : List (Nat × Value)} {st : List Value} {M : Mem} {Rt : xGt → Array Value → State → Outcome → State → Prop} {Q : Int32 → Mem → Prop} {l0 : Nat} (hd : decode cc pc = .ok (.invokevirtual ix, 3)) (q : Nat) (hq : pc + 3 = q) (hk_l0 : SHk l0 = 12) (w1 : Cond.methodLink own ix yX12_readCompared ∈ xTs) (hr : 7 < d) (hst : (st.map fun v => v.category).sum ≤ 8) (h : FX12_readCompared Q l0 M) (k : ∀ (r : Int32) (N : Mem), Q r N → xX own cc nL rt d q L (.int r :: st) N Rt) : xX own cc nL rt d pc L (.ref l0 :: st) M Rt :=
  x_callV_i (n := 0) (As := []) hd q hq hk_l0 (by decide) rfl rfl w1 kw7_16 ks5_7 kw1_14 kw7_17 (by decide +kernel) rfl hr (by decide) hst _ rfl (cX12_readCompared_ hk_l0 h) k
def FX12_waits (Q : Mem → Prop) (l0 : Nat) (l1 : Int32) (M : Mem) : Prop :=
  vp_in (M l0 28) 40 ∧ ∀ M1 : Mem, M1 = xu M (l0 + 15) (ix (M l0 28)) l1 → ∀ M2 : Mem, M2 = xu M1 l0 28 ((M1 l0 28) + 1) → Q M2
theorem eX12_waits {Q : Mem → Prop} {l0 : Nat} {l1 : Int32} {M : Mem} (hk_l0 : SHk l0 = 12) (h : FX12_waits Q l0 l1 M) : xX RX12 cX12_waits 2 none 1 0 [(0, .ref l0), (1, .int l1)] [] M (xQv Q) := by
  unfold FX12_waits at h
  refine x_aload_n dX12_waits_0 rfl 1 rfl ?_
  refine gf12_27 dX12_waits_1 4 rfl hk_l0 kw5_186 ?_
  refine x_aload_n dX12_waits_4 rfl 5 rfl ?_
  refine gf12_28 dX12_waits_5 8 rfl hk_l0 kw5_187 ?_
  refine x_iload_n dX12_waits_8 rfl 9 rfl ?_
  obtain ⟨hin, h⟩ := h
  refine x_iastore dX12_waits_9 (ly12_27 hk_l0) hin 10 rfl (x_mem (fun M1 hM1 => ?_))
  have h := h M1 hM1
  refine x_aload_n dX12_waits_10 rfl 11 rfl ?_
  refine x_aload_n dX12_waits_11 rfl 12 rfl ?_
  refine gf12_28 dX12_waits_12 15 rfl hk_l0 kw5_187 ?_
  refine x_iconst dX12_waits_15 kc_1 16 rfl ?_
  refine x_iadd dX12_waits_16 17 rfl ?_
  refine pf12_28 dX12_waits_17 20 rfl hk_l0 kw5_187 (x_mem (fun M2 hM2 => ?_))
  have h := h M2 hM2
  exact x_vret dX12_waits_20 h
theorem cX12_waits_ {Q : Mem → Prop} {l0 : Nat} {l1 : Int32} {M : Mem} (hk_l0 : SHk l0 = 12) (h : FX12_waits Q l0 l1 M) : xM yX12_waits cX12_waits 2 none 1 [.ref l0, .int l1] M (xQv Q) := xM_of (by decide +kernel) (Nat.le_of_ble_eq_true rfl) (eX12_waits hk_l0 h)
theorem kX12_waits {own : String} {cc : ByteArray} {nL : Nat} {rt : Option FieldType} {d pc ix : Nat} {L : List (Nat × Value)} {st : List Value} {M : Mem} {Rt : xGt → Array Value → State → Outcome → State → Prop} {Q : Mem → Prop} {l0 : Nat} {l1 : Int32} (hd : decode cc pc = .ok (.invokevirtual ix, 3)) (q : Nat) (hq : pc + 3 = q) (hk_l0 : SHk l0 = 12) (w1 : Cond.methodLink own ix yX12_waits ∈ xTs) (hr : 1 < d) (hst : (st.map fun v => v.category).sum ≤ 8) (h : FX12_waits Q l0 l1 M) (k : ∀ (N : Mem), Q N → xX own cc nL rt d q L st N Rt) : xX own cc nL rt d pc L (.int l1 :: .ref l0 :: st) M Rt :=
  x_callV_v (n := 1) (As := [.int l1]) hd q hq hk_l0 (by decide) rfl rfl w1 kw7_12 ks5_6 kw1_14 kw7_13 (by decide +kernel) rfl hr (by decide) hst _ rfl (cX12_waits_ hk_l0 h) k
def lbX12_settles_0 (Q : Mem → Prop) (l0 : Nat) (l1 : Int32) (B0 : Mem → Prop) (M : Mem) : Prop :=
  (((M l0 28) ≤ 0 → Q M) ∧ (¬ (M l0 28) ≤ 0 → vp_in ((M l0 28) - 1) 40 ∧ ((¬ (M (l0 + 15) (ix ((M l0 28) - 1))) = l1 → Q M) ∧ ((M (l0 + 15) (ix ((M l0 28) - 1))) = l1 → ∀ M1 : Mem, M1 = xu M l0 28 ((M l0 28) - 1) → FX12_emits (fun (M2 : Mem) => ((¬ l1 = 9 → B0 M2) ∧ (l1 = 9 → ∀ M3 : Mem, M3 = xu M2 l0 26 ((M2 l0 26) - 1) → B0 M3))) l0 l1 0 M1))))
def NX12_settles_0 (Q : Mem → Prop) (l0 : Nat) (l1 : Int32) (M : Mem) : Prop := xlp (fun (B : Mem → Prop) a => lbX12_settles_0 Q l0 l1 (fun M => B (M)) a) (M)
theorem nX12_settles_0 {Q : Mem → Prop} {l0 : Nat} {l1 : Int32} {M : Mem} (hk_l0 : SHk l0 = 12) (h : NX12_settles_0 Q l0 l1 M) : xX RX12 cX12_settles 2 none 2 0 [(0, .ref l0), (1, .int l1)] [] M (xQv Q) := by
  obtain ⟨n, h⟩ := h
  have hB0 : ∀ (n : Nat) (M : Mem), xlpn (fun (B : Mem → Prop) a => lbX12_settles_0 Q l0 l1 (fun M => B (M)) a) n (M) → xX RX12 cX12_settles 2 none 2 0 [(0, .ref l0), (1, .int l1)] [] M (xQv Q) := by
    intro n
    induction n with
    | zero => intro M h; exact False.elim h
    | succ n ih =>
      intro M h
      have hB0 := ih
      have h : lbX12_settles_0 Q l0 l1 (fun M => xlpn (fun (B : Mem → Prop) a => lbX12_settles_0 Q l0 l1 (fun M => B (M)) a) n (M)) M := h
      unfold lbX12_settles_0 at h
      refine x_aload_n dX12_settles_0 rfl 1 rfl ?_
      refine gf12_28 dX12_settles_1 4 rfl hk_l0 kw5_187 ?_
      refine x_if_le dX12_settles_4 57 7 rfl rfl (fun hc => ?_) (fun hc => ?_)
      · have h := h.1 hc
        exact x_vret dX12_settles_57 h
      · have h := h.2 hc
        refine x_aload_n dX12_settles_7 rfl 8 rfl ?_
        refine gf12_27 dX12_settles_8 11 rfl hk_l0 kw5_186 ?_
        refine x_aload_n dX12_settles_11 rfl 12 rfl ?_
        refine gf12_28 dX12_settles_12 15 rfl hk_l0 kw5_187 ?_
        refine x_iconst dX12_settles_15 kc_1 16 rfl ?_
        refine x_isub dX12_settles_16 17 rfl ?_
        obtain ⟨hin, h⟩ := h
        refine x_iaload dX12_settles_17 (ly12_27 hk_l0) hin 18 rfl ?_
        refine x_iload_n dX12_settles_18 rfl 19 rfl ?_
        refine x_icmp_ne dX12_settles_19 57 22 rfl rfl (fun hc => ?_) (fun hc => ?_)
        · have h := h.1 hc
          exact x_vret dX12_settles_57 h
        · have h := h.2 hc
          refine x_aload_n dX12_settles_22 rfl 23 rfl ?_
          refine x_aload_n dX12_settles_23 rfl 24 rfl ?_
          refine gf12_28 dX12_settles_24 27 rfl hk_l0 kw5_187 ?_
          refine x_iconst dX12_settles_27 kc_1 28 rfl ?_
          refine x_isub dX12_settles_28 29 rfl ?_
          refine pf12_28 dX12_settles_29 32 rfl hk_l0 kw5_187 (x_mem (fun M1 hM1 => ?_))
          have h := h M1 hM1
          refine x_aload_n dX12_settles_32 rfl 33 rfl ?_
          refine x_iload_n dX12_settles_33 rfl 34 rfl ?_
          refine x_iconst dX12_settles_34 kc_0 35 rfl ?_
          refine kX12_emits dX12_settles_35 38 rfl hk_l0 kw7_2 (Nat.le_of_ble_eq_true rfl) (Nat.le_of_ble_eq_true rfl) h (fun M2 h => ?_)
          refine x_iload_n dX12_settles_38 rfl 39 rfl ?_
          refine x_bipush dX12_settles_39 kb_9 41 rfl ?_
          refine x_icmp_ne dX12_settles_41 0 44 rfl rfl (fun hc => ?_) (fun hc => ?_)
          · have h := h.1 hc
            exact hB0 _ h
          · have h := h.2 hc
            refine x_aload_n dX12_settles_44 rfl 45 rfl ?_
            refine x_aload_n dX12_settles_45 rfl 46 rfl ?_
            refine gf12_26 dX12_settles_46 49 rfl hk_l0 kw5_185 ?_
            refine x_iconst dX12_settles_49 kc_1 50 rfl ?_
            refine x_isub dX12_settles_50 51 rfl ?_
            refine pf12_26 dX12_settles_51 54 rfl hk_l0 kw5_185 (x_mem (fun M3 hM3 => ?_))
            have h := h M3 hM3
            refine x_goto dX12_settles_54 0 rfl ?_
            exact hB0 _ h
  exact hB0 n M h
def FX12_settles (Q : Mem → Prop) (l0 : Nat) (l1 : Int32) (M : Mem) : Prop :=
  NX12_settles_0 Q l0 l1 M
theorem eX12_settles {Q : Mem → Prop} {l0 : Nat} {l1 : Int32} {M : Mem} (hk_l0 : SHk l0 = 12) (h : FX12_settles Q l0 l1 M) : xX RX12 cX12_settles 2 none 2 0 [(0, .ref l0), (1, .int l1)] [] M (xQv Q) := by
  unfold FX12_settles at h
  exact nX12_settles_0 hk_l0 h
theorem cX12_settles_ {Q : Mem → Prop} {l0 : Nat} {l1 : Int32} {M : Mem} (hk_l0 : SHk l0 = 12) (h : FX12_settles Q l0 l1 M) : xM yX12_settles cX12_settles 2 none 2 [.ref l0, .int l1] M (xQv Q) := xM_of (by decide +kernel) (Nat.le_of_ble_eq_true rfl) (eX12_settles hk_l0 h)
theorem kX12_settles {own : String} {cc : ByteArray} {nL : Nat} {rt : Option FieldType} {d pc ix : Nat} {L : List (Nat × Value)} {st : List Value} {M : Mem} {Rt : xGt → Array Value → State → Outcome → State → Prop} {Q : Mem → Prop} {l0 : Nat} {l1 : Int32} (hd : decode cc pc = .ok (.invokevirtual ix, 3)) (q : Nat) (hq : pc + 3 = q) (hk_l0 : SHk l0 = 12) (w1 : Cond.methodLink own ix yX12_settles ∈ xTs) (hr : 2 < d) (hst : (st.map fun v => v.category).sum ≤ 8) (h : FX12_settles Q l0 l1 M) (k : ∀ (N : Mem), Q N → xX own cc nL rt d q L st N Rt) : xX own cc nL rt d pc L (.int l1 :: .ref l0 :: st) M Rt :=
  x_callV_v (n := 1) (As := [.int l1]) hd q hq hk_l0 (by decide) rfl rfl w1 kw7_20 ks5_8 kw1_14 kw7_21 (by decide +kernel) rfl hr (by decide) hst _ rfl (cX12_settles_ hk_l0 h) k
def NX12_readAny_78 (Q : Int32 → Mem → Prop) (B9 : Int32 → Int32 → Mem → Prop) (l0 : Nat) (l1 : Int32) (l2 : Int32) (s0 : Nat) (s1 : Int32) (M : Mem) : Prop :=
  FX12_waits (fun (M1 : Mem) => FX12_reads (fun (M2 : Mem) => B9 l1 l2 M2) l0 M1) s0 s1 M
theorem nX12_readAny_78 {Q : Int32 → Mem → Prop} {B9 : Int32 → Int32 → Mem → Prop} {l0 : Nat} {l1 : Int32} {l2 : Int32} {s0 : Nat} {s1 : Int32} {M : Mem} (hB9 : ∀ (l1 : Int32) (l2 : Int32) (M : Mem), B9 l1 l2 M → xX RX12 cX12_readAny 4 (some .int) 8 9 [(0, .ref l0), (1, .int l1), (2, .int l2)] [] M (xQi Q)) (hk_l0 : SHk l0 = 12) (hk_s0 : SHk s0 = 12) (h : NX12_readAny_78 Q B9 l0 l1 l2 s0 s1 M) : xX RX12 cX12_readAny 4 (some .int) 8 78 [(0, .ref l0), (1, .int l1), (2, .int l2)] [.int s1, .ref s0] M (xQi Q) := by
  unfold NX12_readAny_78 at h
  refine kX12_waits dX12_readAny_78 81 rfl hk_s0 kw7_10 (Nat.le_of_ble_eq_true rfl) (Nat.le_of_ble_eq_true rfl) h (fun M1 h => ?_)
  refine x_aload_n dX12_readAny_81 rfl 82 rfl ?_
  refine kX12_reads dX12_readAny_82 85 rfl hk_l0 kw6_146 (Nat.le_of_ble_eq_true rfl) (Nat.le_of_ble_eq_true rfl) h (fun M2 h => ?_)
  refine x_goto dX12_readAny_85 9 rfl ?_
  exact hB9 _ _ _ h
def NX12_readAny_66 (Q : Int32 → Mem → Prop) (B9 : Int32 → Int32 → Mem → Prop) (l0 : Nat) (l1 : Int32) (l2 : Int32) (l3 : Int32) (M : Mem) : Prop :=
  ((l3 = 0 → NX12_readAny_78 Q B9 l0 l1 l2 l0 12 M) ∧ (¬ l3 = 0 → NX12_readAny_78 Q B9 l0 l1 l2 l0 9 M))
theorem nX12_readAny_66 {Q : Int32 → Mem → Prop} {B9 : Int32 → Int32 → Mem → Prop} {l0 : Nat} {l1 : Int32} {l2 : Int32} {l3 : Int32} {M : Mem} (hB9 : ∀ (l1 : Int32) (l2 : Int32) (M : Mem), B9 l1 l2 M → xX RX12 cX12_readAny 4 (some .int) 8 9 [(0, .ref l0), (1, .int l1), (2, .int l2)] [] M (xQi Q)) (hk_l0 : SHk l0 = 12) (h : NX12_readAny_66 Q B9 l0 l1 l2 l3 M) : xX RX12 cX12_readAny 4 (some .int) 8 66 [(0, .ref l0), (1, .int l1), (2, .int l2), (3, .int l3)] [] M (xQi Q) := by
  unfold NX12_readAny_66 at h
  refine x_aload_n dX12_readAny_66 rfl 67 rfl ?_
  refine x_iload_n dX12_readAny_67 rfl 68 rfl ?_
  refine x_if_eq dX12_readAny_68 76 71 rfl rfl (fun hc => ?_) (fun hc => ?_)
  · have h := h.1 hc
    refine x_bipush dX12_readAny_76 kb_12 78 rfl ?_
    refine x_weak [(0, .ref l0), (1, .int l1), (2, .int l2)] [0, 1, 2] rfl ?_
    exact nX12_readAny_78 hB9 hk_l0 hk_l0 h
  · have h := h.2 hc
    refine x_bipush dX12_readAny_71 kb_9 73 rfl ?_
    refine x_goto dX12_readAny_73 78 rfl ?_
    refine x_weak [(0, .ref l0), (1, .int l1), (2, .int l2)] [0, 1, 2] rfl ?_
    exact nX12_readAny_78 hB9 hk_l0 hk_l0 h
def NX12_readAny_33 (Q : Int32 → Mem → Prop) (B9 : Int32 → Int32 → Mem → Prop) (l0 : Nat) (l1 : Int32) (l2 : Int32) (l3 : Int32) (M : Mem) : Prop :=
  ((¬ (M l0 26) = 8 → ∀ M3 : Mem, M3 = xu M l0 26 ((M l0 26) + 1) → ((¬ l3 = 0 → NX12_readAny_66 Q B9 l0 l1 l2 l3 M3) ∧ (l3 = 0 → NX12_readAny_66 Q B9 l0 (l1 + 1) l2 l3 M3))) ∧ ((M l0 26) = 8 → FX12_errs (fun (r5 : Int32) (M4 : Mem) => Q r5 M4) l0 3 M))
theorem nX12_readAny_33 {Q : Int32 → Mem → Prop} {B9 : Int32 → Int32 → Mem → Prop} {l0 : Nat} {l1 : Int32} {l2 : Int32} {l3 : Int32} {M : Mem} (hB9 : ∀ (l1 : Int32) (l2 : Int32) (M : Mem), B9 l1 l2 M → xX RX12 cX12_readAny 4 (some .int) 8 9 [(0, .ref l0), (1, .int l1), (2, .int l2)] [] M (xQi Q)) (hk_l0 : SHk l0 = 12) (h : NX12_readAny_33 Q B9 l0 l1 l2 l3 M) : xX RX12 cX12_readAny 4 (some .int) 8 33 [(0, .ref l0), (1, .int l1), (2, .int l2), (3, .int l3)] [] M (xQi Q) := by
  unfold NX12_readAny_33 at h
  refine x_aload_n dX12_readAny_33 rfl 34 rfl ?_
  refine gf12_26 dX12_readAny_34 37 rfl hk_l0 kw5_185 ?_
  refine x_bipush dX12_readAny_37 kb_8 39 rfl ?_
  refine x_icmp_ne dX12_readAny_39 48 42 rfl rfl (fun hc => ?_) (fun hc => ?_)
  · have h := h.1 hc
    refine x_aload_n dX12_readAny_48 rfl 49 rfl ?_
    refine x_aload_n dX12_readAny_49 rfl 50 rfl ?_
    refine gf12_26 dX12_readAny_50 53 rfl hk_l0 kw5_185 ?_
    refine x_iconst dX12_readAny_53 kc_1 54 rfl ?_
    refine x_iadd dX12_readAny_54 55 rfl ?_
    refine pf12_26 dX12_readAny_55 58 rfl hk_l0 kw5_185 (x_mem (fun M3 hM3 => ?_))
    have h := h M3 hM3
    refine x_iload_n dX12_readAny_58 rfl 59 rfl ?_
    refine x_if_ne dX12_readAny_59 66 62 rfl rfl (fun hc => ?_) (fun hc => ?_)
    · have h := h.1 hc
      exact nX12_readAny_66 hB9 hk_l0 h
    · have h := h.2 hc
      refine x_iload_n dX12_readAny_62 rfl 63 rfl ?_
      refine x_iconst dX12_readAny_63 kc_1 64 rfl ?_
      refine x_iadd dX12_readAny_64 65 rfl ?_
      refine x_istore_n dX12_readAny_65 (Nat.le_of_ble_eq_true rfl) [(0, .ref l0), (1, .int (l1 + 1)), (2, .int l2), (3, .int l3)] rfl 66 rfl ?_
      exact nX12_readAny_66 hB9 hk_l0 h
  · have h := h.2 hc
    refine x_aload_n dX12_readAny_42 rfl 43 rfl ?_
    refine x_iconst dX12_readAny_43 kc_3 44 rfl ?_
    refine kX12_errs dX12_readAny_44 47 rfl hk_l0 kw6_178 (Nat.le_of_ble_eq_true rfl) (Nat.le_of_ble_eq_true rfl) h (fun r5 M4 h => ?_)
    exact x_iret dX12_readAny_47 h
def lbX12_readAny_9 (Q : Int32 → Mem → Prop) (l0 : Nat) (B9 : Int32 → Int32 → Mem → Prop) (l1 : Int32) (l2 : Int32) (M : Mem) : Prop :=
  ((l2 = 0 → FX12_isWord (fun (r6 : Bool) => ((r6 = false → FX12_isWord (fun (r7 : Bool) => ((r7 = false → FX12_settles (fun (M8 : Mem) => FX12_settles (fun (M9 : Mem) => ((¬ l1 = 0 → FX12_isSign (fun (r10 : Bool) => ((r10 = true → ∀ M11 : Mem, M11 = xu M9 l0 28 ((M9 l0 28) - 1) → ∀ M12 : Mem, M12 = xu M11 l0 26 ((M11 l0 26) - 1) → FX12_settles (fun (M13 : Mem) => FX12_reads (fun (M14 : Mem) => B9 (l1 - 1) l2 M14) l0 M13) l0 9 M12) ∧ (r10 = false → FX12_errs (fun (r16 : Int32) (M15 : Mem) => Q r16 M15) l0 1 M9))) l0 41 M9) ∧ (l1 = 0 → Q 0 M9))) l0 11 M8) l0 10 M) ∧ (r7 = true → FX12_settles (fun (M17 : Mem) => FX12_settles (fun (M18 : Mem) => FX12_waits (fun (M19 : Mem) => FX12_reads (fun (M20 : Mem) => B9 l1 1 M20) l0 M19) l0 11 M18) l0 11 M17) l0 10 M))) l0 4 M) ∧ (r6 = true → FX12_settles (fun (M21 : Mem) => FX12_waits (fun (M22 : Mem) => FX12_reads (fun (M23 : Mem) => B9 l1 1 M23) l0 M22) l0 10 M21) l0 10 M))) l0 5 M) ∧ (¬ l2 = 0 → FX12_isWord (fun (r24 : Bool) => ((¬ (bI r24) = 0 → NX12_readAny_33 Q B9 l0 l1 l2 (bI r24) M) ∧ ((bI r24) = 0 → FX12_isSign (fun (r25 : Bool) => ((r25 = false → FX12_readCompared (fun (r27 : Int32) (M26 : Mem) => ((¬ r27 = (-1) → FX12_settles (fun (M28 : Mem) => B9 l1 0 M28) l0 9 M26) ∧ (r27 = (-1) → Q (-1) M26))) l0 M) ∧ (r25 = true → NX12_readAny_33 Q B9 l0 l1 l2 (bI r24) M))) l0 40 M))) l0 6 M))
def NX12_readAny_9 (Q : Int32 → Mem → Prop) (l0 : Nat) (l1 : Int32) (l2 : Int32) (M : Mem) : Prop := xlp (fun (B : Int32 × Int32 × Mem → Prop) a => lbX12_readAny_9 Q l0 (fun l1 l2 M => B (l1, l2, M)) a.1 a.2.1 a.2.2) (l1, l2, M)
theorem nX12_readAny_9 {Q : Int32 → Mem → Prop} {l0 : Nat} {l1 : Int32} {l2 : Int32} {M : Mem} (hk_l0 : SHk l0 = 12) (h : NX12_readAny_9 Q l0 l1 l2 M) : xX RX12 cX12_readAny 4 (some .int) 8 9 [(0, .ref l0), (1, .int l1), (2, .int l2)] [] M (xQi Q) := by
  obtain ⟨n, h⟩ := h
  have hB9 : ∀ (n : Nat) (l1 : Int32) (l2 : Int32) (M : Mem), xlpn (fun (B : Int32 × Int32 × Mem → Prop) a => lbX12_readAny_9 Q l0 (fun l1 l2 M => B (l1, l2, M)) a.1 a.2.1 a.2.2) n (l1, l2, M) → xX RX12 cX12_readAny 4 (some .int) 8 9 [(0, .ref l0), (1, .int l1), (2, .int l2)] [] M (xQi Q) := by
    intro n
    induction n with
    | zero => intro l1 l2 M h; exact False.elim h
    | succ n ih =>
      intro l1 l2 M h
      have hB9 := ih
      have h : lbX12_readAny_9 Q l0 (fun l1 l2 M => xlpn (fun (B : Int32 × Int32 × Mem → Prop) a => lbX12_readAny_9 Q l0 (fun l1 l2 M => B (l1, l2, M)) a.1 a.2.1 a.2.2) n (l1, l2, M)) l1 l2 M := h
      unfold lbX12_readAny_9 at h
      refine x_iload_n dX12_readAny_9 rfl 10 rfl ?_
      refine x_if_eq dX12_readAny_10 109 13 rfl rfl (fun hc => ?_) (fun hc => ?_)
      · have h := h.1 hc
        refine x_aload_n dX12_readAny_109 rfl 110 rfl ?_
        refine x_iconst dX12_readAny_110 kc_5 111 rfl ?_
        refine kX12_isWord dX12_readAny_111 114 rfl hk_l0 kw6_174 (Nat.le_of_ble_eq_true rfl) (Nat.le_of_ble_eq_true rfl) h (fun r6 h => ?_)
        refine x_if_eq_b dX12_readAny_114 138 117 rfl rfl (fun hc => ?_) (fun hc => ?_)
        · have h := h.1 hc
          refine x_aload_n dX12_readAny_138 rfl 139 rfl ?_
          refine x_iconst dX12_readAny_139 kc_4 140 rfl ?_
          refine kX12_isWord dX12_readAny_140 143 rfl hk_l0 kw6_174 (Nat.le_of_ble_eq_true rfl) (Nat.le_of_ble_eq_true rfl) h (fun r7 h => ?_)
          refine x_if_eq_b dX12_readAny_143 173 146 rfl rfl (fun hc => ?_) (fun hc => ?_)
          · have h := h.1 hc
            refine x_aload_n dX12_readAny_173 rfl 174 rfl ?_
            refine x_bipush dX12_readAny_174 kb_10 176 rfl ?_
            refine kX12_settles dX12_readAny_176 179 rfl hk_l0 kw7_18 (Nat.le_of_ble_eq_true rfl) (Nat.le_of_ble_eq_true rfl) h (fun M8 h => ?_)
            refine x_aload_n dX12_readAny_179 rfl 180 rfl ?_
            refine x_bipush dX12_readAny_180 kb_11 182 rfl ?_
            refine kX12_settles dX12_readAny_182 185 rfl hk_l0 kw7_18 (Nat.le_of_ble_eq_true rfl) (Nat.le_of_ble_eq_true rfl) h (fun M9 h => ?_)
            refine x_iload_n dX12_readAny_185 rfl 186 rfl ?_
            refine x_if_ne dX12_readAny_186 191 189 rfl rfl (fun hc => ?_) (fun hc => ?_)
            · have h := h.1 hc
              refine x_aload_n dX12_readAny_191 rfl 192 rfl ?_
              refine x_bipush dX12_readAny_192 kb_41 194 rfl ?_
              refine kX12_isSign dX12_readAny_194 197 rfl hk_l0 kw6_194 (Nat.le_of_ble_eq_true rfl) (Nat.le_of_ble_eq_true rfl) h (fun r10 h => ?_)
              refine x_if_ne_b dX12_readAny_197 206 200 rfl rfl (fun hc => ?_) (fun hc => ?_)
              · have h := h.1 hc
                refine x_aload_n dX12_readAny_206 rfl 207 rfl ?_
                refine x_aload_n dX12_readAny_207 rfl 208 rfl ?_
                refine gf12_28 dX12_readAny_208 211 rfl hk_l0 kw5_187 ?_
                refine x_iconst dX12_readAny_211 kc_1 212 rfl ?_
                refine x_isub dX12_readAny_212 213 rfl ?_
                refine pf12_28 dX12_readAny_213 216 rfl hk_l0 kw5_187 (x_mem (fun M11 hM11 => ?_))
                have h := h M11 hM11
                refine x_iload_n dX12_readAny_216 rfl 217 rfl ?_
                refine x_iconst dX12_readAny_217 kc_1 218 rfl ?_
                refine x_isub dX12_readAny_218 219 rfl ?_
                refine x_istore_n dX12_readAny_219 (Nat.le_of_ble_eq_true rfl) [(0, .ref l0), (1, .int (l1 - 1)), (2, .int l2)] rfl 220 rfl ?_
                refine x_aload_n dX12_readAny_220 rfl 221 rfl ?_
                refine x_aload_n dX12_readAny_221 rfl 222 rfl ?_
                refine gf12_26 dX12_readAny_222 225 rfl hk_l0 kw5_185 ?_
                refine x_iconst dX12_readAny_225 kc_1 226 rfl ?_
                refine x_isub dX12_readAny_226 227 rfl ?_
                refine pf12_26 dX12_readAny_227 230 rfl hk_l0 kw5_185 (x_mem (fun M12 hM12 => ?_))
                have h := h M12 hM12
                refine x_aload_n dX12_readAny_230 rfl 231 rfl ?_
                refine x_bipush dX12_readAny_231 kb_9 233 rfl ?_
                refine kX12_settles dX12_readAny_233 236 rfl hk_l0 kw7_18 (Nat.le_of_ble_eq_true rfl) (Nat.le_of_ble_eq_true rfl) h (fun M13 h => ?_)
                refine x_aload_n dX12_readAny_236 rfl 237 rfl ?_
                refine kX12_reads dX12_readAny_237 240 rfl hk_l0 kw6_146 (Nat.le_of_ble_eq_true rfl) (Nat.le_of_ble_eq_true rfl) h (fun M14 h => ?_)
                refine x_goto dX12_readAny_240 9 rfl ?_
                exact hB9 _ _ _ h
              · have h := h.2 hc
                refine x_aload_n dX12_readAny_200 rfl 201 rfl ?_
                refine x_iconst dX12_readAny_201 kc_1 202 rfl ?_
                refine kX12_errs dX12_readAny_202 205 rfl hk_l0 kw6_178 (Nat.le_of_ble_eq_true rfl) (Nat.le_of_ble_eq_true rfl) h (fun r16 M15 h => ?_)
                exact x_iret dX12_readAny_205 h
            · have h := h.2 hc
              refine x_iconst dX12_readAny_189 kc_0 190 rfl ?_
              exact x_iret dX12_readAny_190 h
          · have h := h.2 hc
            refine x_aload_n dX12_readAny_146 rfl 147 rfl ?_
            refine x_bipush dX12_readAny_147 kb_10 149 rfl ?_
            refine kX12_settles dX12_readAny_149 152 rfl hk_l0 kw7_18 (Nat.le_of_ble_eq_true rfl) (Nat.le_of_ble_eq_true rfl) h (fun M17 h => ?_)
            refine x_aload_n dX12_readAny_152 rfl 153 rfl ?_
            refine x_bipush dX12_readAny_153 kb_11 155 rfl ?_
            refine kX12_settles dX12_readAny_155 158 rfl hk_l0 kw7_18 (Nat.le_of_ble_eq_true rfl) (Nat.le_of_ble_eq_true rfl) h (fun M18 h => ?_)
            refine x_aload_n dX12_readAny_158 rfl 159 rfl ?_
            refine x_bipush dX12_readAny_159 kb_11 161 rfl ?_
            refine kX12_waits dX12_readAny_161 164 rfl hk_l0 kw7_10 (Nat.le_of_ble_eq_true rfl) (Nat.le_of_ble_eq_true rfl) h (fun M19 h => ?_)
            refine x_aload_n dX12_readAny_164 rfl 165 rfl ?_
            refine kX12_reads dX12_readAny_165 168 rfl hk_l0 kw6_146 (Nat.le_of_ble_eq_true rfl) (Nat.le_of_ble_eq_true rfl) h (fun M20 h => ?_)
            refine x_iconst dX12_readAny_168 kc_1 169 rfl ?_
            refine x_istore_n dX12_readAny_169 (Nat.le_of_ble_eq_true rfl) [(0, .ref l0), (1, .int l1), (2, .int 1)] rfl 170 rfl ?_
            refine x_goto dX12_readAny_170 9 rfl ?_
            exact hB9 _ _ _ h
        · have h := h.2 hc
          refine x_aload_n dX12_readAny_117 rfl 118 rfl ?_
          refine x_bipush dX12_readAny_118 kb_10 120 rfl ?_
          refine kX12_settles dX12_readAny_120 123 rfl hk_l0 kw7_18 (Nat.le_of_ble_eq_true rfl) (Nat.le_of_ble_eq_true rfl) h (fun M21 h => ?_)
          refine x_aload_n dX12_readAny_123 rfl 124 rfl ?_
          refine x_bipush dX12_readAny_124 kb_10 126 rfl ?_
          refine kX12_waits dX12_readAny_126 129 rfl hk_l0 kw7_10 (Nat.le_of_ble_eq_true rfl) (Nat.le_of_ble_eq_true rfl) h (fun M22 h => ?_)
          refine x_aload_n dX12_readAny_129 rfl 130 rfl ?_
          refine kX12_reads dX12_readAny_130 133 rfl hk_l0 kw6_146 (Nat.le_of_ble_eq_true rfl) (Nat.le_of_ble_eq_true rfl) h (fun M23 h => ?_)
          refine x_iconst dX12_readAny_133 kc_1 134 rfl ?_
          refine x_istore_n dX12_readAny_134 (Nat.le_of_ble_eq_true rfl) [(0, .ref l0), (1, .int l1), (2, .int 1)] rfl 135 rfl ?_
          refine x_goto dX12_readAny_135 9 rfl ?_
          exact hB9 _ _ _ h
      · have h := h.2 hc
        refine x_aload_n dX12_readAny_13 rfl 14 rfl ?_
        refine x_bipush dX12_readAny_14 kb_6 16 rfl ?_
        refine kX12_isWord dX12_readAny_16 19 rfl hk_l0 kw6_174 (Nat.le_of_ble_eq_true rfl) (Nat.le_of_ble_eq_true rfl) h (fun r24 h => ?_)
        refine x_istore_n dX12_readAny_19 (Nat.le_of_ble_eq_true rfl) [(0, .ref l0), (1, .int l1), (2, .int l2), (3, .int (bI r24))] rfl 20 rfl ?_
        refine x_iload_n dX12_readAny_20 rfl 21 rfl ?_
        refine x_if_ne dX12_readAny_21 33 24 rfl rfl (fun hc => ?_) (fun hc => ?_)
        · have h := h.1 hc
          exact nX12_readAny_33 hB9 hk_l0 h
        · have h := h.2 hc
          refine x_aload_n dX12_readAny_24 rfl 25 rfl ?_
          refine x_bipush dX12_readAny_25 kb_40 27 rfl ?_
          refine kX12_isSign dX12_readAny_27 30 rfl hk_l0 kw6_194 (Nat.le_of_ble_eq_true rfl) (Nat.le_of_ble_eq_true rfl) h (fun r25 h => ?_)
          refine x_if_eq_b dX12_readAny_30 88 33 rfl rfl (fun hc => ?_) (fun hc => ?_)
          · have h := h.1 hc
            refine x_aload_n dX12_readAny_88 rfl 89 rfl ?_
            refine kX12_readCompared dX12_readAny_89 92 rfl hk_l0 kw7_14 (Nat.le_of_ble_eq_true rfl) (Nat.le_of_ble_eq_true rfl) h (fun r27 M26 h => ?_)
            refine x_iconst dX12_readAny_92 kc_m1 93 rfl ?_
            refine x_icmp_ne dX12_readAny_93 98 96 rfl rfl (fun hc => ?_) (fun hc => ?_)
            · have h := h.1 hc
              refine x_aload_n dX12_readAny_98 rfl 99 rfl ?_
              refine x_bipush dX12_readAny_99 kb_9 101 rfl ?_
              refine kX12_settles dX12_readAny_101 104 rfl hk_l0 kw7_18 (Nat.le_of_ble_eq_true rfl) (Nat.le_of_ble_eq_true rfl) h (fun M28 h => ?_)
              refine x_iconst dX12_readAny_104 kc_0 105 rfl ?_
              refine x_istore_n dX12_readAny_105 (Nat.le_of_ble_eq_true rfl) [(0, .ref l0), (1, .int l1), (2, .int 0), (3, .int (bI r24))] rfl 106 rfl ?_
              refine x_goto dX12_readAny_106 9 rfl ?_
              refine x_weak [(0, .ref l0), (1, .int l1), (2, .int 0)] [0, 1, 2] rfl ?_
              exact hB9 _ _ _ h
            · have h := h.2 hc
              refine x_iconst dX12_readAny_96 kc_m1 97 rfl ?_
              exact x_iret dX12_readAny_97 h
          · have h := h.2 hc
            exact nX12_readAny_33 hB9 hk_l0 h
  exact hB9 n l1 l2 M h
def FX12_readAny (Q : Int32 → Mem → Prop) (l0 : Nat) (M : Mem) : Prop :=
  ∀ M29 : Mem, M29 = xu M l0 28 0 → NX12_readAny_9 Q l0 0 1 M29
theorem eX12_readAny {Q : Int32 → Mem → Prop} {l0 : Nat} {M : Mem} (hk_l0 : SHk l0 = 12) (h : FX12_readAny Q l0 M) : xX RX12 cX12_readAny 4 (some .int) 8 0 [(0, .ref l0)] [] M (xQi Q) := by
  unfold FX12_readAny at h
  refine x_iconst dX12_readAny_0 kc_0 1 rfl ?_
  refine x_istore_n dX12_readAny_1 (Nat.le_of_ble_eq_true rfl) [(0, .ref l0), (1, .int 0)] rfl 2 rfl ?_
  refine x_aload_n dX12_readAny_2 rfl 3 rfl ?_
  refine x_iconst dX12_readAny_3 kc_0 4 rfl ?_
  refine pf12_28 dX12_readAny_4 7 rfl hk_l0 kw5_187 (x_mem (fun M29 hM29 => ?_))
  have h := h M29 hM29
  refine x_iconst dX12_readAny_7 kc_1 8 rfl ?_
  refine x_istore_n dX12_readAny_8 (Nat.le_of_ble_eq_true rfl) [(0, .ref l0), (1, .int 0), (2, .int 1)] rfl 9 rfl ?_
  exact nX12_readAny_9 hk_l0 h
theorem cX12_readAny_ {Q : Int32 → Mem → Prop} {l0 : Nat} {M : Mem} (hk_l0 : SHk l0 = 12) (h : FX12_readAny Q l0 M) : xM yX12_readAny cX12_readAny 4 (some .int) 8 [.ref l0] M (xQi Q) := xM_of (by decide +kernel) (Nat.le_of_ble_eq_true rfl) (eX12_readAny hk_l0 h)
theorem kX12_readAny {own : String} {cc : ByteArray} {nL : Nat} {rt : Option FieldType} {d pc ix : Nat} {L : List (Nat × Value)} {st : List Value} {M : Mem} {Rt : xGt → Array Value → State → Outcome → State → Prop} {Q : Int32 → Mem → Prop} {l0 : Nat} (hd : decode cc pc = .ok (.invokevirtual ix, 3)) (q : Nat) (hq : pc + 3 = q) (hk_l0 : SHk l0 = 12) (w1 : Cond.methodLink own ix yX12_readAny ∈ xTs) (hr : 8 < d) (hst : (st.map fun v => v.category).sum ≤ 8) (h : FX12_readAny Q l0 M) (k : ∀ (r : Int32) (N : Mem), Q r N → xX own cc nL rt d q L (.int r :: st) N Rt) : xX own cc nL rt d pc L (.ref l0 :: st) M Rt :=
  x_callV_i (n := 0) (As := []) hd q hq hk_l0 (by decide) rfl rfl w1 kw7_8 ks5_5 kw1_14 kw7_9 (by decide +kernel) rfl hr (by decide) hst _ rfl (cX12_readAny_ hk_l0 h) k
