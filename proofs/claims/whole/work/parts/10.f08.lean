def NX12_readProduct_94 (Q : Int32 → Mem → Prop) (B10 : Mem → Prop) (l0 : Nat) (s0 : Nat) (s1 : Int32) (M : Mem) : Prop :=
  FX12_emits (fun (M1 : Mem) => B10 M1) s0 s1 0 M
theorem nX12_readProduct_94 {Q : Int32 → Mem → Prop} {B10 : Mem → Prop} {l0 : Nat} {s0 : Nat} {s1 : Int32} {M : Mem} (hB10 : ∀ (M : Mem), B10 M → xX RX12 cX12_readProduct 2 (some .int) 5 10 [(0, .ref l0)] [] M (xQi Q)) (hk_l0 : SHk l0 = 12) (hk_s0 : SHk s0 = 12) (h : NX12_readProduct_94 Q B10 l0 s0 s1 M) : xX RX12 cX12_readProduct 2 (some .int) 5 94 [(0, .ref l0)] [.int s1, .ref s0] M (xQi Q) := by
  unfold NX12_readProduct_94 at h
  refine x_iconst dX12_readProduct_94 kc_0 95 rfl ?_
  refine kX12_emits dX12_readProduct_95 98 rfl hk_s0 kw7_2 (Nat.le_of_ble_eq_true rfl) (Nat.le_of_ble_eq_true rfl) h (fun M1 h => ?_)
  refine x_goto dX12_readProduct_98 10 rfl ?_
  exact hB10 _ h
def NX12_readProduct_74 (Q : Int32 → Mem → Prop) (B10 : Mem → Prop) (l0 : Nat) (l1 : Int32) (M : Mem) : Prop :=
  FX12_readUnit (fun (r3 : Int32) (M2 : Mem) => ((¬ r3 = (-1) → ((l1 = 0 → NX12_readProduct_94 Q B10 l0 l0 5 M2) ∧ (¬ l1 = 0 → NX12_readProduct_94 Q B10 l0 l0 4 M2))) ∧ (r3 = (-1) → Q (-1) M2))) l0 M
theorem nX12_readProduct_74 {Q : Int32 → Mem → Prop} {B10 : Mem → Prop} {l0 : Nat} {l1 : Int32} {M : Mem} (hB10 : ∀ (M : Mem), B10 M → xX RX12 cX12_readProduct 2 (some .int) 5 10 [(0, .ref l0)] [] M (xQi Q)) (hk_l0 : SHk l0 = 12) (h : NX12_readProduct_74 Q B10 l0 l1 M) : xX RX12 cX12_readProduct 2 (some .int) 5 74 [(0, .ref l0), (1, .int l1)] [] M (xQi Q) := by
  unfold NX12_readProduct_74 at h
  refine x_aload_n dX12_readProduct_74 rfl 75 rfl ?_
  refine kX12_readUnit dX12_readProduct_75 78 rfl hk_l0 kw6_234 (Nat.le_of_ble_eq_true rfl) (Nat.le_of_ble_eq_true rfl) h (fun r3 M2 h => ?_)
  refine x_iconst dX12_readProduct_78 kc_m1 79 rfl ?_
  refine x_icmp_ne dX12_readProduct_79 84 82 rfl rfl (fun hc => ?_) (fun hc => ?_)
  · have h := h.1 hc
    refine x_aload_n dX12_readProduct_84 rfl 85 rfl ?_
    refine x_iload_n dX12_readProduct_85 rfl 86 rfl ?_
    refine x_if_eq dX12_readProduct_86 93 89 rfl rfl (fun hc => ?_) (fun hc => ?_)
    · have h := h.1 hc
      refine x_iconst dX12_readProduct_93 kc_5 94 rfl ?_
      refine x_weak [(0, .ref l0)] [0] rfl ?_
      exact nX12_readProduct_94 hB10 hk_l0 hk_l0 h
    · have h := h.2 hc
      refine x_iconst dX12_readProduct_89 kc_4 90 rfl ?_
      refine x_goto dX12_readProduct_90 94 rfl ?_
      refine x_weak [(0, .ref l0)] [0] rfl ?_
      exact nX12_readProduct_94 hB10 hk_l0 hk_l0 h
  · have h := h.2 hc
    refine x_iconst dX12_readProduct_82 kc_m1 83 rfl ?_
    exact x_iret dX12_readProduct_83 h
def NX12_readProduct_57 (Q : Int32 → Mem → Prop) (B10 : Mem → Prop) (l0 : Nat) (l1 : Int32) (M : Mem) : Prop :=
  ((¬ l1 = 0 → NX12_readProduct_74 Q B10 l0 l1 M) ∧ (l1 = 0 → ((¬ (M l0 15) = 0 → NX12_readProduct_74 Q B10 l0 l1 M) ∧ ((M l0 15) = 0 → FX12_errs (fun (r5 : Int32) (M4 : Mem) => Q r5 M4) l0 2 M))))
theorem nX12_readProduct_57 {Q : Int32 → Mem → Prop} {B10 : Mem → Prop} {l0 : Nat} {l1 : Int32} {M : Mem} (hB10 : ∀ (M : Mem), B10 M → xX RX12 cX12_readProduct 2 (some .int) 5 10 [(0, .ref l0)] [] M (xQi Q)) (hk_l0 : SHk l0 = 12) (h : NX12_readProduct_57 Q B10 l0 l1 M) : xX RX12 cX12_readProduct 2 (some .int) 5 57 [(0, .ref l0), (1, .int l1)] [] M (xQi Q) := by
  unfold NX12_readProduct_57 at h
  refine x_iload_n dX12_readProduct_57 rfl 58 rfl ?_
  refine x_if_ne dX12_readProduct_58 74 61 rfl rfl (fun hc => ?_) (fun hc => ?_)
  · have h := h.1 hc
    exact nX12_readProduct_74 hB10 hk_l0 h
  · have h := h.2 hc
    refine x_aload_n dX12_readProduct_61 rfl 62 rfl ?_
    refine gf12_15 dX12_readProduct_62 65 rfl hk_l0 kw5_174 ?_
    refine x_if_ne dX12_readProduct_65 74 68 rfl rfl (fun hc => ?_) (fun hc => ?_)
    · have h := h.1 hc
      exact nX12_readProduct_74 hB10 hk_l0 h
    · have h := h.2 hc
      refine x_aload_n dX12_readProduct_68 rfl 69 rfl ?_
      refine x_iconst dX12_readProduct_69 kc_2 70 rfl ?_
      refine kX12_errs dX12_readProduct_70 73 rfl hk_l0 kw6_178 (Nat.le_of_ble_eq_true rfl) (Nat.le_of_ble_eq_true rfl) h (fun r5 M4 h => ?_)
      exact x_iret dX12_readProduct_73 h
def NX12_readProduct_28 (Q : Int32 → Mem → Prop) (B10 : Mem → Prop) (l0 : Nat) (M : Mem) : Prop :=
  FX12_isSign (fun (r6 : Bool) => FX12_reads (fun (M7 : Mem) => ((¬ (bI r6) = 0 → NX12_readProduct_57 Q B10 l0 (bI r6) M7) ∧ ((bI r6) = 0 → (((M7 l0 14) = 3 → NX12_readProduct_57 Q B10 l0 (bI r6) M7) ∧ (¬ (M7 l0 14) = 3 → FX12_errs (fun (r9 : Int32) (M8 : Mem) => Q r9 M8) l0 1 M7))))) l0 M) l0 42 M
theorem nX12_readProduct_28 {Q : Int32 → Mem → Prop} {B10 : Mem → Prop} {l0 : Nat} {M : Mem} (hB10 : ∀ (M : Mem), B10 M → xX RX12 cX12_readProduct 2 (some .int) 5 10 [(0, .ref l0)] [] M (xQi Q)) (hk_l0 : SHk l0 = 12) (h : NX12_readProduct_28 Q B10 l0 M) : xX RX12 cX12_readProduct 2 (some .int) 5 28 [(0, .ref l0)] [] M (xQi Q) := by
  unfold NX12_readProduct_28 at h
  refine x_aload_n dX12_readProduct_28 rfl 29 rfl ?_
  refine x_bipush dX12_readProduct_29 kb_42 31 rfl ?_
  refine kX12_isSign dX12_readProduct_31 34 rfl hk_l0 kw6_194 (Nat.le_of_ble_eq_true rfl) (Nat.le_of_ble_eq_true rfl) h (fun r6 h => ?_)
  refine x_istore_n dX12_readProduct_34 (Nat.le_of_ble_eq_true rfl) [(0, .ref l0), (1, .int (bI r6))] rfl 35 rfl ?_
  refine x_aload_n dX12_readProduct_35 rfl 36 rfl ?_
  refine kX12_reads dX12_readProduct_36 39 rfl hk_l0 kw6_146 (Nat.le_of_ble_eq_true rfl) (Nat.le_of_ble_eq_true rfl) h (fun M7 h => ?_)
  refine x_iload_n dX12_readProduct_39 rfl 40 rfl ?_
  refine x_if_ne dX12_readProduct_40 57 43 rfl rfl (fun hc => ?_) (fun hc => ?_)
  · have h := h.1 hc
    exact nX12_readProduct_57 hB10 hk_l0 h
  · have h := h.2 hc
    refine x_aload_n dX12_readProduct_43 rfl 44 rfl ?_
    refine gf12_14 dX12_readProduct_44 47 rfl hk_l0 kw5_173 ?_
    refine x_iconst dX12_readProduct_47 kc_3 48 rfl ?_
    refine x_icmp_eq dX12_readProduct_48 57 51 rfl rfl (fun hc => ?_) (fun hc => ?_)
    · have h := h.1 hc
      exact nX12_readProduct_57 hB10 hk_l0 h
    · have h := h.2 hc
      refine x_aload_n dX12_readProduct_51 rfl 52 rfl ?_
      refine x_iconst dX12_readProduct_52 kc_1 53 rfl ?_
      refine kX12_errs dX12_readProduct_53 56 rfl hk_l0 kw6_178 (Nat.le_of_ble_eq_true rfl) (Nat.le_of_ble_eq_true rfl) h (fun r9 M8 h => ?_)
      exact x_iret dX12_readProduct_56 h
def lbX12_readProduct_10 (Q : Int32 → Mem → Prop) (l0 : Nat) (B10 : Mem → Prop) (M : Mem) : Prop :=
  FX12_isSign (fun (r10 : Bool) => ((r10 = true → NX12_readProduct_28 Q B10 l0 M) ∧ (r10 = false → FX12_isSign (fun (r11 : Bool) => ((r11 = false → Q 0 M) ∧ (r11 = true → NX12_readProduct_28 Q B10 l0 M))) l0 47 M))) l0 42 M
def NX12_readProduct_10 (Q : Int32 → Mem → Prop) (l0 : Nat) (M : Mem) : Prop := xlp (fun (B : Mem → Prop) a => lbX12_readProduct_10 Q l0 (fun M => B (M)) a) (M)
theorem nX12_readProduct_10 {Q : Int32 → Mem → Prop} {l0 : Nat} {M : Mem} (hk_l0 : SHk l0 = 12) (h : NX12_readProduct_10 Q l0 M) : xX RX12 cX12_readProduct 2 (some .int) 5 10 [(0, .ref l0)] [] M (xQi Q) := by
  obtain ⟨n, h⟩ := h
  have hB10 : ∀ (n : Nat) (M : Mem), xlpn (fun (B : Mem → Prop) a => lbX12_readProduct_10 Q l0 (fun M => B (M)) a) n (M) → xX RX12 cX12_readProduct 2 (some .int) 5 10 [(0, .ref l0)] [] M (xQi Q) := by
    intro n
    induction n with
    | zero => intro M h; exact False.elim h
    | succ n ih =>
      intro M h
      have hB10 := ih
      have h : lbX12_readProduct_10 Q l0 (fun M => xlpn (fun (B : Mem → Prop) a => lbX12_readProduct_10 Q l0 (fun M => B (M)) a) n (M)) M := h
      unfold lbX12_readProduct_10 at h
      refine x_aload_n dX12_readProduct_10 rfl 11 rfl ?_
      refine x_bipush dX12_readProduct_11 kb_42 13 rfl ?_
      refine kX12_isSign dX12_readProduct_13 16 rfl hk_l0 kw6_194 (Nat.le_of_ble_eq_true rfl) (Nat.le_of_ble_eq_true rfl) h (fun r10 h => ?_)
      refine x_if_ne_b dX12_readProduct_16 28 19 rfl rfl (fun hc => ?_) (fun hc => ?_)
      · have h := h.1 hc
        exact nX12_readProduct_28 hB10 hk_l0 h
      · have h := h.2 hc
        refine x_aload_n dX12_readProduct_19 rfl 20 rfl ?_
        refine x_bipush dX12_readProduct_20 kb_47 22 rfl ?_
        refine kX12_isSign dX12_readProduct_22 25 rfl hk_l0 kw6_194 (Nat.le_of_ble_eq_true rfl) (Nat.le_of_ble_eq_true rfl) h (fun r11 h => ?_)
        refine x_if_eq_b dX12_readProduct_25 101 28 rfl rfl (fun hc => ?_) (fun hc => ?_)
        · have h := h.1 hc
          refine x_iconst dX12_readProduct_101 kc_0 102 rfl ?_
          exact x_iret dX12_readProduct_102 h
        · have h := h.2 hc
          exact nX12_readProduct_28 hB10 hk_l0 h
  exact hB10 n M h
def FX12_readProduct (Q : Int32 → Mem → Prop) (l0 : Nat) (M : Mem) : Prop :=
  FX12_readUnit (fun (r13 : Int32) (M12 : Mem) => ((¬ r13 = (-1) → NX12_readProduct_10 Q l0 M12) ∧ (r13 = (-1) → Q (-1) M12))) l0 M
theorem eX12_readProduct {Q : Int32 → Mem → Prop} {l0 : Nat} {M : Mem} (hk_l0 : SHk l0 = 12) (h : FX12_readProduct Q l0 M) : xX RX12 cX12_readProduct 2 (some .int) 5 0 [(0, .ref l0)] [] M (xQi Q) := by
  unfold FX12_readProduct at h
  refine x_aload_n dX12_readProduct_0 rfl 1 rfl ?_
  refine kX12_readUnit dX12_readProduct_1 4 rfl hk_l0 kw6_234 (Nat.le_of_ble_eq_true rfl) (Nat.le_of_ble_eq_true rfl) h (fun r13 M12 h => ?_)
  refine x_iconst dX12_readProduct_4 kc_m1 5 rfl ?_
  refine x_icmp_ne dX12_readProduct_5 10 8 rfl rfl (fun hc => ?_) (fun hc => ?_)
  · have h := h.1 hc
    exact nX12_readProduct_10 hk_l0 h
  · have h := h.2 hc
    refine x_iconst dX12_readProduct_8 kc_m1 9 rfl ?_
    exact x_iret dX12_readProduct_9 h
theorem cX12_readProduct_ {Q : Int32 → Mem → Prop} {l0 : Nat} {M : Mem} (hk_l0 : SHk l0 = 12) (h : FX12_readProduct Q l0 M) : xM yX12_readProduct cX12_readProduct 2 (some .int) 5 [.ref l0] M (xQi Q) := xM_of (by decide +kernel) (Nat.le_of_ble_eq_true rfl) (eX12_readProduct hk_l0 h)
theorem kX12_readProduct {own : String} {cc : ByteArray} {nL : Nat} {rt : Option FieldType} {d pc ix : Nat} {L : List (Nat × Value)} {st : List Value} {M : Mem} {Rt : xGt → Array Value → State → Outcome → State → Prop} {Q : Int32 → Mem → Prop} {l0 : Nat} (hd : decode cc pc = .ok (.invokevirtual ix, 3)) (q : Nat) (hq : pc + 3 = q) (hk_l0 : SHk l0 = 12) (w1 : Cond.methodLink own ix yX12_readProduct ∈ xTs) (hr : 5 < d) (hst : (st.map fun v => v.category).sum ≤ 8) (h : FX12_readProduct Q l0 M) (k : ∀ (r : Int32) (N : Mem), Q r N → xX own cc nL rt d q L (.int r :: st) N Rt) : xX own cc nL rt d pc L (.ref l0 :: st) M Rt :=
  x_callV_i (n := 0) (As := []) hd q hq hk_l0 (by decide) rfl rfl w1 kw6_232 ks5_1 kw1_14 kw6_233 (by decide +kernel) rfl hr (by decide) hst _ rfl (cX12_readProduct_ hk_l0 h) k
def NX12_readSum_42 (Q : Int32 → Mem → Prop) (B10 : Mem → Prop) (l0 : Nat) (s0 : Int32) (M : Mem) : Prop :=
  FX12_reads (fun (M1 : Mem) => FX12_readProduct (fun (r3 : Int32) (M2 : Mem) => ((¬ r3 = (-1) → FX12_emits (fun (M4 : Mem) => B10 M4) l0 s0 0 M2) ∧ (r3 = (-1) → Q (-1) M2))) l0 M1) l0 M
theorem nX12_readSum_42 {Q : Int32 → Mem → Prop} {B10 : Mem → Prop} {l0 : Nat} {s0 : Int32} {M : Mem} (hB10 : ∀ (M : Mem), B10 M → xX RX12 cX12_readSum 2 (some .int) 6 10 [(0, .ref l0)] [] M (xQi Q)) (hk_l0 : SHk l0 = 12) (h : NX12_readSum_42 Q B10 l0 s0 M) : xX RX12 cX12_readSum 2 (some .int) 6 42 [(0, .ref l0)] [.int s0] M (xQi Q) := by
  unfold NX12_readSum_42 at h
  refine x_istore_n dX12_readSum_42 (Nat.le_of_ble_eq_true rfl) [(0, .ref l0), (1, .int s0)] rfl 43 rfl ?_
  refine x_aload_n dX12_readSum_43 rfl 44 rfl ?_
  refine kX12_reads dX12_readSum_44 47 rfl hk_l0 kw6_146 (Nat.le_of_ble_eq_true rfl) (Nat.le_of_ble_eq_true rfl) h (fun M1 h => ?_)
  refine x_aload_n dX12_readSum_47 rfl 48 rfl ?_
  refine kX12_readProduct dX12_readSum_48 51 rfl hk_l0 kw6_230 (Nat.le_of_ble_eq_true rfl) (Nat.le_of_ble_eq_true rfl) h (fun r3 M2 h => ?_)
  refine x_iconst dX12_readSum_51 kc_m1 52 rfl ?_
  refine x_icmp_ne dX12_readSum_52 57 55 rfl rfl (fun hc => ?_) (fun hc => ?_)
  · have h := h.1 hc
    refine x_aload_n dX12_readSum_57 rfl 58 rfl ?_
    refine x_iload_n dX12_readSum_58 rfl 59 rfl ?_
    refine x_iconst dX12_readSum_59 kc_0 60 rfl ?_
    refine kX12_emits dX12_readSum_60 63 rfl hk_l0 kw7_2 (Nat.le_of_ble_eq_true rfl) (Nat.le_of_ble_eq_true rfl) h (fun M4 h => ?_)
    refine x_goto dX12_readSum_63 10 rfl ?_
    refine x_weak [(0, .ref l0)] [0] rfl ?_
    exact hB10 _ h
  · have h := h.2 hc
    refine x_iconst dX12_readSum_55 kc_m1 56 rfl ?_
    exact x_iret dX12_readSum_56 h
def NX12_readSum_28 (Q : Int32 → Mem → Prop) (B10 : Mem → Prop) (l0 : Nat) (M : Mem) : Prop :=
  ((¬ (M l0 15) = 43 → NX12_readSum_42 Q B10 l0 3 M) ∧ ((M l0 15) = 43 → NX12_readSum_42 Q B10 l0 2 M))
theorem nX12_readSum_28 {Q : Int32 → Mem → Prop} {B10 : Mem → Prop} {l0 : Nat} {M : Mem} (hB10 : ∀ (M : Mem), B10 M → xX RX12 cX12_readSum 2 (some .int) 6 10 [(0, .ref l0)] [] M (xQi Q)) (hk_l0 : SHk l0 = 12) (h : NX12_readSum_28 Q B10 l0 M) : xX RX12 cX12_readSum 2 (some .int) 6 28 [(0, .ref l0)] [] M (xQi Q) := by
  unfold NX12_readSum_28 at h
  refine x_aload_n dX12_readSum_28 rfl 29 rfl ?_
  refine gf12_15 dX12_readSum_29 32 rfl hk_l0 kw5_174 ?_
  refine x_bipush dX12_readSum_32 kb_43 34 rfl ?_
  refine x_icmp_ne dX12_readSum_34 41 37 rfl rfl (fun hc => ?_) (fun hc => ?_)
  · have h := h.1 hc
    refine x_iconst dX12_readSum_41 kc_3 42 rfl ?_
    exact nX12_readSum_42 hB10 hk_l0 h
  · have h := h.2 hc
    refine x_iconst dX12_readSum_37 kc_2 38 rfl ?_
    refine x_goto dX12_readSum_38 42 rfl ?_
    exact nX12_readSum_42 hB10 hk_l0 h
def lbX12_readSum_10 (Q : Int32 → Mem → Prop) (l0 : Nat) (B10 : Mem → Prop) (M : Mem) : Prop :=
  FX12_isSign (fun (r5 : Bool) => ((r5 = true → NX12_readSum_28 Q B10 l0 M) ∧ (r5 = false → FX12_isSign (fun (r6 : Bool) => ((r6 = false → Q 0 M) ∧ (r6 = true → NX12_readSum_28 Q B10 l0 M))) l0 45 M))) l0 43 M
def NX12_readSum_10 (Q : Int32 → Mem → Prop) (l0 : Nat) (M : Mem) : Prop := xlp (fun (B : Mem → Prop) a => lbX12_readSum_10 Q l0 (fun M => B (M)) a) (M)
theorem nX12_readSum_10 {Q : Int32 → Mem → Prop} {l0 : Nat} {M : Mem} (hk_l0 : SHk l0 = 12) (h : NX12_readSum_10 Q l0 M) : xX RX12 cX12_readSum 2 (some .int) 6 10 [(0, .ref l0)] [] M (xQi Q) := by
  obtain ⟨n, h⟩ := h
  have hB10 : ∀ (n : Nat) (M : Mem), xlpn (fun (B : Mem → Prop) a => lbX12_readSum_10 Q l0 (fun M => B (M)) a) n (M) → xX RX12 cX12_readSum 2 (some .int) 6 10 [(0, .ref l0)] [] M (xQi Q) := by
    intro n
    induction n with
    | zero => intro M h; exact False.elim h
    | succ n ih =>
      intro M h
      have hB10 := ih
      have h : lbX12_readSum_10 Q l0 (fun M => xlpn (fun (B : Mem → Prop) a => lbX12_readSum_10 Q l0 (fun M => B (M)) a) n (M)) M := h
      unfold lbX12_readSum_10 at h
      refine x_aload_n dX12_readSum_10 rfl 11 rfl ?_
      refine x_bipush dX12_readSum_11 kb_43 13 rfl ?_
      refine kX12_isSign dX12_readSum_13 16 rfl hk_l0 kw6_194 (Nat.le_of_ble_eq_true rfl) (Nat.le_of_ble_eq_true rfl) h (fun r5 h => ?_)
      refine x_if_ne_b dX12_readSum_16 28 19 rfl rfl (fun hc => ?_) (fun hc => ?_)
      · have h := h.1 hc
        exact nX12_readSum_28 hB10 hk_l0 h
      · have h := h.2 hc
        refine x_aload_n dX12_readSum_19 rfl 20 rfl ?_
        refine x_bipush dX12_readSum_20 kb_45 22 rfl ?_
        refine kX12_isSign dX12_readSum_22 25 rfl hk_l0 kw6_194 (Nat.le_of_ble_eq_true rfl) (Nat.le_of_ble_eq_true rfl) h (fun r6 h => ?_)
        refine x_if_eq_b dX12_readSum_25 66 28 rfl rfl (fun hc => ?_) (fun hc => ?_)
        · have h := h.1 hc
          refine x_iconst dX12_readSum_66 kc_0 67 rfl ?_
          exact x_iret dX12_readSum_67 h
        · have h := h.2 hc
          exact nX12_readSum_28 hB10 hk_l0 h
  exact hB10 n M h
def FX12_readSum (Q : Int32 → Mem → Prop) (l0 : Nat) (M : Mem) : Prop :=
  FX12_readProduct (fun (r8 : Int32) (M7 : Mem) => ((¬ r8 = (-1) → NX12_readSum_10 Q l0 M7) ∧ (r8 = (-1) → Q (-1) M7))) l0 M
theorem eX12_readSum {Q : Int32 → Mem → Prop} {l0 : Nat} {M : Mem} (hk_l0 : SHk l0 = 12) (h : FX12_readSum Q l0 M) : xX RX12 cX12_readSum 2 (some .int) 6 0 [(0, .ref l0)] [] M (xQi Q) := by
  unfold FX12_readSum at h
  refine x_aload_n dX12_readSum_0 rfl 1 rfl ?_
  refine kX12_readProduct dX12_readSum_1 4 rfl hk_l0 kw6_230 (Nat.le_of_ble_eq_true rfl) (Nat.le_of_ble_eq_true rfl) h (fun r8 M7 h => ?_)
  refine x_iconst dX12_readSum_4 kc_m1 5 rfl ?_
  refine x_icmp_ne dX12_readSum_5 10 8 rfl rfl (fun hc => ?_) (fun hc => ?_)
  · have h := h.1 hc
    exact nX12_readSum_10 hk_l0 h
  · have h := h.2 hc
    refine x_iconst dX12_readSum_8 kc_m1 9 rfl ?_
    exact x_iret dX12_readSum_9 h
theorem cX12_readSum_ {Q : Int32 → Mem → Prop} {l0 : Nat} {M : Mem} (hk_l0 : SHk l0 = 12) (h : FX12_readSum Q l0 M) : xM yX12_readSum cX12_readSum 2 (some .int) 6 [.ref l0] M (xQi Q) := xM_of (by decide +kernel) (Nat.le_of_ble_eq_true rfl) (eX12_readSum hk_l0 h)
theorem kX12_readSum {own : String} {cc : ByteArray} {nL : Nat} {rt : Option FieldType} {d pc ix : Nat} {L : List (Nat × Value)} {st : List Value} {M : Mem} {Rt : xGt → Array Value → State → Outcome → State → Prop} {Q : Int32 → Mem → Prop} {l0 : Nat} (hd : decode cc pc = .ok (.invokevirtual ix, 3)) (q : Nat) (hq : pc + 3 = q) (hk_l0 : SHk l0 = 12) (w1 : Cond.methodLink own ix yX12_readSum ∈ xTs) (hr : 6 < d) (hst : (st.map fun v => v.category).sum ≤ 8) (h : FX12_readSum Q l0 M) (k : ∀ (r : Int32) (N : Mem), Q r N → xX own cc nL rt d q L (.int r :: st) N Rt) : xX own cc nL rt d pc L (.ref l0 :: st) M Rt :=
  x_callV_i (n := 0) (As := []) hd q hq hk_l0 (by decide) rfl rfl w1 kw6_228 ks5_0 kw1_14 kw6_229 (by decide +kernel) rfl hr (by decide) hst _ rfl (cX12_readSum_ hk_l0 h) k
def NX12_readCompared_73 (Q : Int32 → Mem → Prop) (l0 : Nat) (s0 : Int32) (M : Mem) : Prop :=
  FX12_reads (fun (M1 : Mem) => FX12_readSum (fun (r3 : Int32) (M2 : Mem) => ((¬ r3 = (-1) → FX12_emits (fun (M4 : Mem) => Q 0 M4) l0 s0 0 M2) ∧ (r3 = (-1) → Q (-1) M2))) l0 M1) l0 M
theorem nX12_readCompared_73 {Q : Int32 → Mem → Prop} {l0 : Nat} {s0 : Int32} {M : Mem} (hk_l0 : SHk l0 = 12) (h : NX12_readCompared_73 Q l0 s0 M) : xX RX12 cX12_readCompared 2 (some .int) 7 73 [(0, .ref l0)] [.int s0] M (xQi Q) := by
  unfold NX12_readCompared_73 at h
  refine x_istore_n dX12_readCompared_73 (Nat.le_of_ble_eq_true rfl) [(0, .ref l0), (1, .int s0)] rfl 74 rfl ?_
  refine x_aload_n dX12_readCompared_74 rfl 75 rfl ?_
  refine kX12_reads dX12_readCompared_75 78 rfl hk_l0 kw6_146 (Nat.le_of_ble_eq_true rfl) (Nat.le_of_ble_eq_true rfl) h (fun M1 h => ?_)
  refine x_aload_n dX12_readCompared_78 rfl 79 rfl ?_
  refine kX12_readSum dX12_readCompared_79 82 rfl hk_l0 kw6_226 (Nat.le_of_ble_eq_true rfl) (Nat.le_of_ble_eq_true rfl) h (fun r3 M2 h => ?_)
  refine x_iconst dX12_readCompared_82 kc_m1 83 rfl ?_
  refine x_icmp_ne dX12_readCompared_83 88 86 rfl rfl (fun hc => ?_) (fun hc => ?_)
  · have h := h.1 hc
    refine x_aload_n dX12_readCompared_88 rfl 89 rfl ?_
    refine x_iload_n dX12_readCompared_89 rfl 90 rfl ?_
    refine x_iconst dX12_readCompared_90 kc_0 91 rfl ?_
    refine kX12_emits dX12_readCompared_91 94 rfl hk_l0 kw7_2 (Nat.le_of_ble_eq_true rfl) (Nat.le_of_ble_eq_true rfl) h (fun M4 h => ?_)
    refine x_iconst dX12_readCompared_94 kc_0 95 rfl ?_
    exact x_iret dX12_readCompared_95 h
  · have h := h.2 hc
    refine x_iconst dX12_readCompared_86 kc_m1 87 rfl ?_
    exact x_iret dX12_readCompared_87 h
def NX12_readCompared_43 (Q : Int32 → Mem → Prop) (l0 : Nat) (M : Mem) : Prop :=
  ((¬ (M l0 15) = 60 → ((¬ (M l0 15) = 61 → NX12_readCompared_73 Q l0 8 M) ∧ ((M l0 15) = 61 → NX12_readCompared_73 Q l0 7 M))) ∧ ((M l0 15) = 60 → NX12_readCompared_73 Q l0 6 M))
theorem nX12_readCompared_43 {Q : Int32 → Mem → Prop} {l0 : Nat} {M : Mem} (hk_l0 : SHk l0 = 12) (h : NX12_readCompared_43 Q l0 M) : xX RX12 cX12_readCompared 2 (some .int) 7 43 [(0, .ref l0)] [] M (xQi Q) := by
  unfold NX12_readCompared_43 at h
  refine x_aload_n dX12_readCompared_43 rfl 44 rfl ?_
  refine gf12_15 dX12_readCompared_44 47 rfl hk_l0 kw5_174 ?_
  refine x_bipush dX12_readCompared_47 kb_60 49 rfl ?_
  refine x_icmp_ne dX12_readCompared_49 57 52 rfl rfl (fun hc => ?_) (fun hc => ?_)
  · have h := h.1 hc
    refine x_aload_n dX12_readCompared_57 rfl 58 rfl ?_
    refine gf12_15 dX12_readCompared_58 61 rfl hk_l0 kw5_174 ?_
    refine x_bipush dX12_readCompared_61 kb_61 63 rfl ?_
    refine x_icmp_ne dX12_readCompared_63 71 66 rfl rfl (fun hc => ?_) (fun hc => ?_)
    · have h := h.1 hc
      refine x_bipush dX12_readCompared_71 kb_8 73 rfl ?_
      exact nX12_readCompared_73 hk_l0 h
    · have h := h.2 hc
      refine x_bipush dX12_readCompared_66 kb_7 68 rfl ?_
      refine x_goto dX12_readCompared_68 73 rfl ?_
      exact nX12_readCompared_73 hk_l0 h
  · have h := h.2 hc
    refine x_bipush dX12_readCompared_52 kb_6 54 rfl ?_
    refine x_goto dX12_readCompared_54 73 rfl ?_
    exact nX12_readCompared_73 hk_l0 h
def FX12_readCompared (Q : Int32 → Mem → Prop) (l0 : Nat) (M : Mem) : Prop :=
  FX12_readSum (fun (r6 : Int32) (M5 : Mem) => ((¬ r6 = (-1) → FX12_isSign (fun (r7 : Bool) => ((r7 = true → NX12_readCompared_43 Q l0 M5) ∧ (r7 = false → FX12_isSign (fun (r8 : Bool) => ((r8 = true → NX12_readCompared_43 Q l0 M5) ∧ (r8 = false → FX12_isSign (fun (r9 : Bool) => ((r9 = true → NX12_readCompared_43 Q l0 M5) ∧ (r9 = false → FX12_errs (fun (r11 : Int32) (M10 : Mem) => Q r11 M10) l0 1 M5))) l0 62 M5))) l0 61 M5))) l0 60 M5) ∧ (r6 = (-1) → Q (-1) M5))) l0 M
theorem eX12_readCompared {Q : Int32 → Mem → Prop} {l0 : Nat} {M : Mem} (hk_l0 : SHk l0 = 12) (h : FX12_readCompared Q l0 M) : xX RX12 cX12_readCompared 2 (some .int) 7 0 [(0, .ref l0)] [] M (xQi Q) := by
  unfold FX12_readCompared at h
  refine x_aload_n dX12_readCompared_0 rfl 1 rfl ?_
  refine kX12_readSum dX12_readCompared_1 4 rfl hk_l0 kw6_226 (Nat.le_of_ble_eq_true rfl) (Nat.le_of_ble_eq_true rfl) h (fun r6 M5 h => ?_)
  refine x_iconst dX12_readCompared_4 kc_m1 5 rfl ?_
  refine x_icmp_ne dX12_readCompared_5 10 8 rfl rfl (fun hc => ?_) (fun hc => ?_)
  · have h := h.1 hc
    refine x_aload_n dX12_readCompared_10 rfl 11 rfl ?_
    refine x_bipush dX12_readCompared_11 kb_60 13 rfl ?_
    refine kX12_isSign dX12_readCompared_13 16 rfl hk_l0 kw6_194 (Nat.le_of_ble_eq_true rfl) (Nat.le_of_ble_eq_true rfl) h (fun r7 h => ?_)
    refine x_if_ne_b dX12_readCompared_16 43 19 rfl rfl (fun hc => ?_) (fun hc => ?_)
    · have h := h.1 hc
      exact nX12_readCompared_43 hk_l0 h
    · have h := h.2 hc
      refine x_aload_n dX12_readCompared_19 rfl 20 rfl ?_
      refine x_bipush dX12_readCompared_20 kb_61 22 rfl ?_
      refine kX12_isSign dX12_readCompared_22 25 rfl hk_l0 kw6_194 (Nat.le_of_ble_eq_true rfl) (Nat.le_of_ble_eq_true rfl) h (fun r8 h => ?_)
      refine x_if_ne_b dX12_readCompared_25 43 28 rfl rfl (fun hc => ?_) (fun hc => ?_)
      · have h := h.1 hc
        exact nX12_readCompared_43 hk_l0 h
      · have h := h.2 hc
        refine x_aload_n dX12_readCompared_28 rfl 29 rfl ?_
        refine x_bipush dX12_readCompared_29 kb_62 31 rfl ?_
        refine kX12_isSign dX12_readCompared_31 34 rfl hk_l0 kw6_194 (Nat.le_of_ble_eq_true rfl) (Nat.le_of_ble_eq_true rfl) h (fun r9 h => ?_)
        refine x_if_ne_b dX12_readCompared_34 43 37 rfl rfl (fun hc => ?_) (fun hc => ?_)
        · have h := h.1 hc
          exact nX12_readCompared_43 hk_l0 h
        · have h := h.2 hc
          refine x_aload_n dX12_readCompared_37 rfl 38 rfl ?_
          refine x_iconst dX12_readCompared_38 kc_1 39 rfl ?_
          refine kX12_errs dX12_readCompared_39 42 rfl hk_l0 kw6_178 (Nat.le_of_ble_eq_true rfl) (Nat.le_of_ble_eq_true rfl) h (fun r11 M10 h => ?_)
          exact x_iret dX12_readCompared_42 h
  · have h := h.2 hc
    refine x_iconst dX12_readCompared_8 kc_m1 9 rfl ?_
    exact x_iret dX12_readCompared_9 h
theorem cX12_readCompared_ {Q : Int32 → Mem → Prop} {l0 : Nat} {M : Mem} (hk_l0 : SHk l0 = 12) (h : FX12_readCompared Q l0 M) : xM yX12_readCompared cX12_readCompared 2 (some .int) 7 [.ref l0] M (xQi Q) := xM_of (by decide +kernel) (Nat.le_of_ble_eq_true rfl) (eX12_readCompared hk_l0 h)
theorem kX12_readCompared {own : String} {cc : ByteArray} {nL : Nat} {rt : Option FieldType} {d pc ix : Nat} {L : List (Nat × Value)} {st : List Value} {M : Mem} {Rt : xGt → Array Value → State → Outcome → State → Prop} {Q : Int32 → Mem → Prop} {l0 : Nat} (hd : decode cc pc = .ok (.invokevirtual ix, 3)) (q : Nat) (hq : pc + 3 = q) (hk_l0 : SHk l0 = 12) (w1 : Cond.methodLink own ix yX12_readCompared ∈ xTs) (hr : 7 < d) (hst : (st.map fun v => v.category).sum ≤ 8) (h : FX12_readCompared Q l0 M) (k : ∀ (r : Int32) (N : Mem), Q r N → xX own cc nL rt d q L (.int r :: st) N Rt) : xX own cc nL rt d pc L (.ref l0 :: st) M Rt :=
  x_callV_i (n := 0) (As := []) hd q hq hk_l0 (by decide) rfl rfl w1 kw7_16 ks5_7 kw1_14 kw7_17 (by decide +kernel) rfl hr (by decide) hst _ rfl (cX12_readCompared_ hk_l0 h) k
def FX12_waits (Q : Mem → Prop) (l0 : Nat) (l1 : Int32) (M : Mem) : Prop :=
  vp_in (M l0 28) 40 ∧ ∀ M1 : Mem, M1 = xu M (l0 + 15) (ix (M l0 28)) l1 → ∀ M2 : Mem, M2 = xu M1 l0 28 ((M1 l0 28) + 1) → Q M2
theorem eX12_waits {Q : Mem → Prop} {l0 : Nat} {l1 : Int32} {M : Mem} (hk_l0 : SHk l0 = 12) (h : FX12_waits Q l0 l1 M) : xX RX12 cX12_waits 2 none 1 0 [(0, .ref l0), (1, .int l1)] [] M (xQv Q) := by
  unfold FX12_waits at h
  refine x_aload_n dX12_waits_0 rfl 1 rfl ?_
  refine gf12_27 dX12_waits_1 4 rfl hk_l0 kw5_186 ?_
  refine x_aload_n dX12_waits_4 rfl 5 rfl ?_
  refine gf12_28 dX12_waits_5 8 rfl hk_l0 kw5_187 ?_
  refine x_iload_n dX12_waits_8 rfl 9 rfl ?_
  obtain ⟨hin, h⟩ := h
  refine x_iastore dX12_waits_9 (ly12_27 hk_l0) hin 10 rfl (x_mem (fun M1 hM1 => ?_))
  have h := h M1 hM1
  refine x_aload_n dX12_waits_10 rfl 11 rfl ?_
  refine x_aload_n dX12_waits_11 rfl 12 rfl ?_
  refine gf12_28 dX12_waits_12 15 rfl hk_l0 kw5_187 ?_
  refine x_iconst dX12_waits_15 kc_1 16 rfl ?_
  refine x_iadd dX12_waits_16 17 rfl ?_
  refine pf12_28 dX12_waits_17 20 rfl hk_l0 kw5_187 (x_mem (fun M2 hM2 => ?_))
  have h := h M2 hM2
  exact x_vret dX12_waits_20 h
theorem cX12_waits_ {Q : Mem → Prop} {l0 : Nat} {l1 : Int32} {M : Mem} (hk_l0 : SHk l0 = 12) (h : FX12_waits Q l0 l1 M) : xM yX12_waits cX12_waits 2 none 1 [.ref l0, .int l1] M (xQv Q) := xM_of (by decide +kernel) (Nat.le_of_ble_eq_true rfl) (eX12_waits hk_l0 h)
theorem kX12_waits {own : String} {cc : ByteArray} {nL : Nat} {rt : Option FieldType} {d pc ix : Nat} {L : List (Nat × Value)} {st : List Value} {M : Mem} {Rt : xGt → Array Value → State → Outcome → State → Prop} {Q : Mem → Prop} {l0 : Nat} {l1 : Int32} (hd : decode cc pc = .ok (.invokevirtual ix, 3)) (q : Nat) (hq : pc + 3 = q) (hk_l0 : SHk l0 = 12) (w1 : Cond.methodLink own ix yX12_waits ∈ xTs) (hr : 1 < d) (hst : (st.map fun v => v.category).sum ≤ 8) (h : FX12_waits Q l0 l1 M) (k : ∀ (N : Mem), Q N → xX own cc nL rt d q L st N Rt) : xX own cc nL rt d pc L (.int l1 :: .ref l0 :: st) M Rt :=
  x_callV_v (n := 1) (As := [.int l1]) hd q hq hk_l0 (by decide) rfl rfl w1 kw7_12 ks5_6 kw1_14 kw7_13 (by decide +kernel) rfl hr (by decide) hst _ rfl (cX12_waits_ hk_l0 h) k
def lbX12_settles_0 (Q : Mem → Prop) (l0 : Nat) (l1 : Int32) (B0 : Mem → Prop) (M : Mem) : Prop :=
  (((M l0 28) ≤ 0 → Q M) ∧ (¬ (M l0 28) ≤ 0 → vp_in ((M l0 28) - 1) 40 ∧ ((¬ (M (l0 + 15) (ix ((M l0 28) - 1))) = l1 → Q M) ∧ ((M (l0 + 15) (ix ((M l0 28) - 1))) = l1 → ∀ M1 : Mem, M1 = xu M l0 28 ((M l0 28) - 1) → FX12_emits (fun (M2 : Mem) => ((¬ l1 = 9 → B0 M2) ∧ (l1 = 9 → ∀ M3 : Mem, M3 = xu M2 l0 26 ((M2 l0 26) - 1) → B0 M3))) l0 l1 0 M1))))
def NX12_settles_0 (Q : Mem → Prop) (l0 : Nat) (l1 : Int32) (M : Mem) : Prop := xlp (fun (B : Mem → Prop) a => lbX12_settles_0 Q l0 l1 (fun M => B (M)) a) (M)
theorem nX12_settles_0 {Q : Mem → Prop} {l0 : Nat} {l1 : Int32} {M : Mem} (hk_l0 : SHk l0 = 12) (h : NX12_settles_0 Q l0 l1 M) : xX RX12 cX12_settles 2 none 2 0 [(0, .ref l0), (1, .int l1)] [] M (xQv Q) := by
  obtain ⟨n, h⟩ := h
  have hB0 : ∀ (n : Nat) (M : Mem), xlpn (fun (B : Mem → Prop) a => lbX12_settles_0 Q l0 l1 (fun M => B (M)) a) n (M) → xX RX12 cX12_settles 2 none 2 0 [(0, .ref l0), (1, .int l1)] [] M (xQv Q) := by
    intro n
    induction n with
    | zero => intro M h; exact False.elim h
    | succ n ih =>
      intro M h
      have hB0 := ih
      have h : lbX12_settles_0 Q l0 l1 (fun M => xlpn (fun (B : Mem → Prop) a => lbX12_settles_0 Q l0 l1 (fun M => B (M)) a) n (M)) M := h
      unfold lbX12_settles_0 at h
      refine x_aload_n dX12_settles_0 rfl 1 rfl ?_
      refine gf12_28 dX12_settles_1 4 rfl hk_l0 kw5_187 ?_
      refine x_if_le dX12_settles_4 57 7 rfl rfl (fun hc => ?_) (fun hc => ?_)
      · have h := h.1 hc
        exact x_vret dX12_settles_57 h
      · have h := h.2 hc
        refine x_aload_n dX12_settles_7 rfl 8 rfl ?_
        refine gf12_27 dX12_settles_8 11 rfl hk_l0 kw5_186 ?_
        refine x_aload_n dX12_settles_11 rfl 12 rfl ?_
        refine gf12_28 dX12_settles_12 15 rfl hk_l0 kw5_187 ?_
        refine x_iconst dX12_settles_15 kc_1 16 rfl ?_
        refine x_isub dX12_settles_16 17 rfl ?_
        obtain ⟨hin, h⟩ := h
        refine x_iaload dX12_settles_17 (ly12_27 hk_l0) hin 18 rfl ?_
        refine x_iload_n dX12_settles_18 rfl 19 rfl ?_
        refine x_icmp_ne dX12_settles_19 57 22 rfl rfl (fun hc => ?_) (fun hc => ?_)
        · have h := h.1 hc
          exact x_vret dX12_settles_57 h
        · have h := h.2 hc
          refine x_aload_n dX12_settles_22 rfl 23 rfl ?_
          refine x_aload_n dX12_settles_23 rfl 24 rfl ?_
          refine gf12_28 dX12_settles_24 27 rfl hk_l0 kw5_187 ?_
          refine x_iconst dX12_settles_27 kc_1 28 rfl ?_
          refine x_isub dX12_settles_28 29 rfl ?_
          refine pf12_28 dX12_settles_29 32 rfl hk_l0 kw5_187 (x_mem (fun M1 hM1 => ?_))
          have h := h M1 hM1
          refine x_aload_n dX12_settles_32 rfl 33 rfl ?_
          refine x_iload_n dX12_settles_33 rfl 34 rfl ?_
          refine x_iconst dX12_settles_34 kc_0 35 rfl ?_
          refine kX12_emits dX12_settles_35 38 rfl hk_l0 kw7_2 (Nat.le_of_ble_eq_true rfl) (Nat.le_of_ble_eq_true rfl) h (fun M2 h => ?_)
          refine x_iload_n dX12_settles_38 rfl 39 rfl ?_
          refine x_bipush dX12_settles_39 kb_9 41 rfl ?_
          refine x_icmp_ne dX12_settles_41 0 44 rfl rfl (fun hc => ?_) (fun hc => ?_)
          · have h := h.1 hc
            exact hB0 _ h
          · have h := h.2 hc
            refine x_aload_n dX12_settles_44 rfl 45 rfl ?_
            refine x_aload_n dX12_settles_45 rfl 46 rfl ?_
            refine gf12_26 dX12_settles_46 49 rfl hk_l0 kw5_185 ?_
            refine x_iconst dX12_settles_49 kc_1 50 rfl ?_
            refine x_isub dX12_settles_50 51 rfl ?_
            refine pf12_26 dX12_settles_51 54 rfl hk_l0 kw5_185 (x_mem (fun M3 hM3 => ?_))
            have h := h M3 hM3
            refine x_goto dX12_settles_54 0 rfl ?_
            exact hB0 _ h
  exact hB0 n M h
def FX12_settles (Q : Mem → Prop) (l0 : Nat) (l1 : Int32) (M : Mem) : Prop :=
  NX12_settles_0 Q l0 l1 M
theorem eX12_settles {Q : Mem → Prop} {l0 : Nat} {l1 : Int32} {M : Mem} (hk_l0 : SHk l0 = 12) (h : FX12_settles Q l0 l1 M) : xX RX12 cX12_settles 2 none 2 0 [(0, .ref l0), (1, .int l1)] [] M (xQv Q) := by
  unfold FX12_settles at h
  exact nX12_settles_0 hk_l0 h
theorem cX12_settles_ {Q : Mem → Prop} {l0 : Nat} {l1 : Int32} {M : Mem} (hk_l0 : SHk l0 = 12) (h : FX12_settles Q l0 l1 M) : xM yX12_settles cX12_settles 2 none 2 [.ref l0, .int l1] M (xQv Q) := xM_of (by decide +kernel) (Nat.le_of_ble_eq_true rfl) (eX12_settles hk_l0 h)
theorem kX12_settles {own : String} {cc : ByteArray} {nL : Nat} {rt : Option FieldType} {d pc ix : Nat} {L : List (Nat × Value)} {st : List Value} {M : Mem} {Rt : xGt → Array Value → State → Outcome → State → Prop} {Q : Mem → Prop} {l0 : Nat} {l1 : Int32} (hd : decode cc pc = .ok (.invokevirtual ix, 3)) (q : Nat) (hq : pc + 3 = q) (hk_l0 : SHk l0 = 12) (w1 : Cond.methodLink own ix yX12_settles ∈ xTs) (hr : 2 < d) (hst : (st.map fun v => v.category).sum ≤ 8) (h : FX12_settles Q l0 l1 M) (k : ∀ (N : Mem), Q N → xX own cc nL rt d q L st N Rt) : xX own cc nL rt d pc L (.int l1 :: .ref l0 :: st) M Rt :=
  x_callV_v (n := 1) (As := [.int l1]) hd q hq hk_l0 (by decide) rfl rfl w1 kw7_20 ks5_8 kw1_14 kw7_21 (by decide +kernel) rfl hr (by decide) hst _ rfl (cX12_settles_ hk_l0 h) k
def NX12_readAny_78 (Q : Int32 → Mem → Prop) (B9 : Int32 → Int32 → Mem → Prop) (l0 : Nat) (l1 : Int32) (l2 : Int32) (s0 : Nat) (s1 : Int32) (M : Mem) : Prop :=
  FX12_waits (fun (M1 : Mem) => FX12_reads (fun (M2 : Mem) => B9 l1 l2 M2) l0 M1) s0 s1 M
theorem nX12_readAny_78 {Q : Int32 → Mem → Prop} {B9 : Int32 → Int32 → Mem → Prop} {l0 : Nat} {l1 : Int32} {l2 : Int32} {s0 : Nat} {s1 : Int32} {M : Mem} (hB9 : ∀ (l1 : Int32) (l2 : Int32) (M : Mem), B9 l1 l2 M → xX RX12 cX12_readAny 4 (some .int) 8 9 [(0, .ref l0), (1, .int l1), (2, .int l2)] [] M (xQi Q)) (hk_l0 : SHk l0 = 12) (hk_s0 : SHk s0 = 12) (h : NX12_readAny_78 Q B9 l0 l1 l2 s0 s1 M) : xX RX12 cX12_readAny 4 (some .int) 8 78 [(0, .ref l0), (1, .int l1), (2, .int l2)] [.int s1, .ref s0] M (xQi Q) := by
  unfold NX12_readAny_78 at h
  refine kX12_waits dX12_readAny_78 81 rfl hk_s0 kw7_10 (Nat.le_of_ble_eq_true rfl) (Nat.le_of_ble_eq_true rfl) h (fun M1 h => ?_)
  refine x_aload_n dX12_readAny_81 rfl 82 rfl ?_
  refine kX12_reads dX12_readAny_82 85 rfl hk_l0 kw6_146 (Nat.le_of_ble_eq_true rfl) (Nat.le_of_ble_eq_true rfl) h (fun M2 h => ?_)
  refine x_goto dX12_readAny_85 9 rfl ?_
  exact hB9 _ _ _ h
def NX12_readAny_66 (Q : Int32 → Mem → Prop) (B9 : Int32 → Int32 → Mem → Prop) (l0 : Nat) (l1 : Int32) (l2 : Int32) (l3 : Int32) (M : Mem) : Prop :=
  ((l3 = 0 → NX12_readAny_78 Q B9 l0 l1 l2 l0 12 M) ∧ (¬ l3 = 0 → NX12_readAny_78 Q B9 l0 l1 l2 l0 9 M))
theorem nX12_readAny_66 {Q : Int32 → Mem → Prop} {B9 : Int32 → Int32 → Mem → Prop} {l0 : Nat} {l1 : Int32} {l2 : Int32} {l3 : Int32} {M : Mem} (hB9 : ∀ (l1 : Int32) (l2 : Int32) (M : Mem), B9 l1 l2 M → xX RX12 cX12_readAny 4 (some .int) 8 9 [(0, .ref l0), (1, .int l1), (2, .int l2)] [] M (xQi Q)) (hk_l0 : SHk l0 = 12) (h : NX12_readAny_66 Q B9 l0 l1 l2 l3 M) : xX RX12 cX12_readAny 4 (some .int) 8 66 [(0, .ref l0), (1, .int l1), (2, .int l2), (3, .int l3)] [] M (xQi Q) := by
  unfold NX12_readAny_66 at h
  refine x_aload_n dX12_readAny_66 rfl 67 rfl ?_
  refine x_iload_n dX12_readAny_67 rfl 68 rfl ?_
  refine x_if_eq dX12_readAny_68 76 71 rfl rfl (fun hc => ?_) (fun hc => ?_)
  · have h := h.1 hc
    refine x_bipush dX12_readAny_76 kb_12 78 rfl ?_
    refine x_weak [(0, .ref l0), (1, .int l1), (2, .int l2)] [0, 1, 2] rfl ?_
    exact nX12_readAny_78 hB9 hk_l0 hk_l0 h
  · have h := h.2 hc
    refine x_bipush dX12_readAny_71 kb_9 73 rfl ?_
    refine x_goto dX12_readAny_73 78 rfl ?_
    refine x_weak [(0, .ref l0), (1, .int l1), (2, .int l2)] [0, 1, 2] rfl ?_
    exact nX12_readAny_78 hB9 hk_l0 hk_l0 h
def NX12_readAny_33 (Q : Int32 → Mem → Prop) (B9 : Int32 → Int32 → Mem → Prop) (l0 : Nat) (l1 : Int32) (l2 : Int32) (l3 : Int32) (M : Mem) : Prop :=
  ((¬ (M l0 26) = 8 → ∀ M3 : Mem, M3 = xu M l0 26 ((M l0 26) + 1) → ((¬ l3 = 0 → NX12_readAny_66 Q B9 l0 l1 l2 l3 M3) ∧ (l3 = 0 → NX12_readAny_66 Q B9 l0 (l1 + 1) l2 l3 M3))) ∧ ((M l0 26) = 8 → FX12_errs (fun (r5 : Int32) (M4 : Mem) => Q r5 M4) l0 3 M))
theorem nX12_readAny_33 {Q : Int32 → Mem → Prop} {B9 : Int32 → Int32 → Mem → Prop} {l0 : Nat} {l1 : Int32} {l2 : Int32} {l3 : Int32} {M : Mem} (hB9 : ∀ (l1 : Int32) (l2 : Int32) (M : Mem), B9 l1 l2 M → xX RX12 cX12_readAny 4 (some .int) 8 9 [(0, .ref l0), (1, .int l1), (2, .int l2)] [] M (xQi Q)) (hk_l0 : SHk l0 = 12) (h : NX12_readAny_33 Q B9 l0 l1 l2 l3 M) : xX RX12 cX12_readAny 4 (some .int) 8 33 [(0, .ref l0), (1, .int l1), (2, .int l2), (3, .int l3)] [] M (xQi Q) := by
  unfold NX12_readAny_33 at h
  refine x_aload_n dX12_readAny_33 rfl 34 rfl ?_
  refine gf12_26 dX12_readAny_34 37 rfl hk_l0 kw5_185 ?_
  refine x_bipush dX12_readAny_37 kb_8 39 rfl ?_
  refine x_icmp_ne dX12_readAny_39 48 42 rfl rfl (fun hc => ?_) (fun hc => ?_)
  · have h := h.1 hc
    refine x_aload_n dX12_readAny_48 rfl 49 rfl ?_
    refine x_aload_n dX12_readAny_49 rfl 50 rfl ?_
    refine gf12_26 dX12_readAny_50 53 rfl hk_l0 kw5_185 ?_
    refine x_iconst dX12_readAny_53 kc_1 54 rfl ?_
    refine x_iadd dX12_readAny_54 55 rfl ?_
    refine pf12_26 dX12_readAny_55 58 rfl hk_l0 kw5_185 (x_mem (fun M3 hM3 => ?_))
    have h := h M3 hM3
    refine x_iload_n dX12_readAny_58 rfl 59 rfl ?_
    refine x_if_ne dX12_readAny_59 66 62 rfl rfl (fun hc => ?_) (fun hc => ?_)
    · have h := h.1 hc
      exact nX12_readAny_66 hB9 hk_l0 h
    · have h := h.2 hc
      refine x_iload_n dX12_readAny_62 rfl 63 rfl ?_
      refine x_iconst dX12_readAny_63 kc_1 64 rfl ?_
      refine x_iadd dX12_readAny_64 65 rfl ?_
      refine x_istore_n dX12_readAny_65 (Nat.le_of_ble_eq_true rfl) [(0, .ref l0), (1, .int (l1 + 1)), (2, .int l2), (3, .int l3)] rfl 66 rfl ?_
      exact nX12_readAny_66 hB9 hk_l0 h
  · have h := h.2 hc
    refine x_aload_n dX12_readAny_42 rfl 43 rfl ?_
    refine x_iconst dX12_readAny_43 kc_3 44 rfl ?_
    refine kX12_errs dX12_readAny_44 47 rfl hk_l0 kw6_178 (Nat.le_of_ble_eq_true rfl) (Nat.le_of_ble_eq_true rfl) h (fun r5 M4 h => ?_)
    exact x_iret dX12_readAny_47 h
def lbX12_readAny_9 (Q : Int32 → Mem → Prop) (l0 : Nat) (B9 : Int32 → Int32 → Mem → Prop) (l1 : Int32) (l2 : Int32) (M : Mem) : Prop :=
  ((l2 = 0 → FX12_isWord (fun (r6 : Bool) => ((r6 = false → FX12_isWord (fun (r7 : Bool) => ((r7 = false → FX12_settles (fun (M8 : Mem) => FX12_settles (fun (M9 : Mem) => ((¬ l1 = 0 → FX12_isSign (fun (r10 : Bool) => ((r10 = true → ∀ M11 : Mem, M11 = xu M9 l0 28 ((M9 l0 28) - 1) → ∀ M12 : Mem, M12 = xu M11 l0 26 ((M11 l0 26) - 1) → FX12_settles (fun (M13 : Mem) => FX12_reads (fun (M14 : Mem) => B9 (l1 - 1) l2 M14) l0 M13) l0 9 M12) ∧ (r10 = false → FX12_errs (fun (r16 : Int32) (M15 : Mem) => Q r16 M15) l0 1 M9))) l0 41 M9) ∧ (l1 = 0 → Q 0 M9))) l0 11 M8) l0 10 M) ∧ (r7 = true → FX12_settles (fun (M17 : Mem) => FX12_settles (fun (M18 : Mem) => FX12_waits (fun (M19 : Mem) => FX12_reads (fun (M20 : Mem) => B9 l1 1 M20) l0 M19) l0 11 M18) l0 11 M17) l0 10 M))) l0 4 M) ∧ (r6 = true → FX12_settles (fun (M21 : Mem) => FX12_waits (fun (M22 : Mem) => FX12_reads (fun (M23 : Mem) => B9 l1 1 M23) l0 M22) l0 10 M21) l0 10 M))) l0 5 M) ∧ (¬ l2 = 0 → FX12_isWord (fun (r24 : Bool) => ((¬ (bI r24) = 0 → NX12_readAny_33 Q B9 l0 l1 l2 (bI r24) M) ∧ ((bI r24) = 0 → FX12_isSign (fun (r25 : Bool) => ((r25 = false → FX12_readCompared (fun (r27 : Int32) (M26 : Mem) => ((¬ r27 = (-1) → FX12_settles (fun (M28 : Mem) => B9 l1 0 M28) l0 9 M26) ∧ (r27 = (-1) → Q (-1) M26))) l0 M) ∧ (r25 = true → NX12_readAny_33 Q B9 l0 l1 l2 (bI r24) M))) l0 40 M))) l0 6 M))
def NX12_readAny_9 (Q : Int32 → Mem → Prop) (l0 : Nat) (l1 : Int32) (l2 : Int32) (M : Mem) : Prop := xlp (fun (B : Int32 × Int32 × Mem → Prop) a => lbX12_readAny_9 Q l0 (fun l1 l2 M => B (l1, l2, M)) a.1 a.2.1 a.2.2) (l1, l2, M)
theorem nX12_readAny_9 {Q : Int32 → Mem → Prop} {l0 : Nat} {l1 : Int32} {l2 : Int32} {M : Mem} (hk_l0 : SHk l0 = 12) (h : NX12_readAny_9 Q l0 l1 l2 M) : xX RX12 cX12_readAny 4 (some .int) 8 9 [(0, .ref l0), (1, .int l1), (2, .int l2)] [] M (xQi Q) := by
  obtain ⟨n, h⟩ := h
  have hB9 : ∀ (n : Nat) (l1 : Int32) (l2 : Int32) (M : Mem), xlpn (fun (B : Int32 × Int32 × Mem → Prop) a => lbX12_readAny_9 Q l0 (fun l1 l2 M => B (l1, l2, M)) a.1 a.2.1 a.2.2) n (l1, l2, M) → xX RX12 cX12_readAny 4 (some .int) 8 9 [(0, .ref l0), (1, .int l1), (2, .int l2)] [] M (xQi Q) := by
    intro n
    induction n with
    | zero => intro l1 l2 M h; exact False.elim h
    | succ n ih =>
      intro l1 l2 M h
      have hB9 := ih
      have h : lbX12_readAny_9 Q l0 (fun l1 l2 M => xlpn (fun (B : Int32 × Int32 × Mem → Prop) a => lbX12_readAny_9 Q l0 (fun l1 l2 M => B (l1, l2, M)) a.1 a.2.1 a.2.2) n (l1, l2, M)) l1 l2 M := h
      unfold lbX12_readAny_9 at h
      refine x_iload_n dX12_readAny_9 rfl 10 rfl ?_
      refine x_if_eq dX12_readAny_10 109 13 rfl rfl (fun hc => ?_) (fun hc => ?_)
      · have h := h.1 hc
        refine x_aload_n dX12_readAny_109 rfl 110 rfl ?_
        refine x_iconst dX12_readAny_110 kc_5 111 rfl ?_
        refine kX12_isWord dX12_readAny_111 114 rfl hk_l0 kw6_174 (Nat.le_of_ble_eq_true rfl) (Nat.le_of_ble_eq_true rfl) h (fun r6 h => ?_)
        refine x_if_eq_b dX12_readAny_114 138 117 rfl rfl (fun hc => ?_) (fun hc => ?_)
        · have h := h.1 hc
          refine x_aload_n dX12_readAny_138 rfl 139 rfl ?_
          refine x_iconst dX12_readAny_139 kc_4 140 rfl ?_
          refine kX12_isWord dX12_readAny_140 143 rfl hk_l0 kw6_174 (Nat.le_of_ble_eq_true rfl) (Nat.le_of_ble_eq_true rfl) h (fun r7 h => ?_)
          refine x_if_eq_b dX12_readAny_143 173 146 rfl rfl (fun hc => ?_) (fun hc => ?_)
          · have h := h.1 hc
            refine x_aload_n dX12_readAny_173 rfl 174 rfl ?_
            refine x_bipush dX12_readAny_174 kb_10 176 rfl ?_
            refine kX12_settles dX12_readAny_176 179 rfl hk_l0 kw7_18 (Nat.le_of_ble_eq_true rfl) (Nat.le_of_ble_eq_true rfl) h (fun M8 h => ?_)
            refine x_aload_n dX12_readAny_179 rfl 180 rfl ?_
            refine x_bipush dX12_readAny_180 kb_11 182 rfl ?_
            refine kX12_settles dX12_readAny_182 185 rfl hk_l0 kw7_18 (Nat.le_of_ble_eq_true rfl) (Nat.le_of_ble_eq_true rfl) h (fun M9 h => ?_)
            refine x_iload_n dX12_readAny_185 rfl 186 rfl ?_
            refine x_if_ne dX12_readAny_186 191 189 rfl rfl (fun hc => ?_) (fun hc => ?_)
            · have h := h.1 hc
              refine x_aload_n dX12_readAny_191 rfl 192 rfl ?_
              refine x_bipush dX12_readAny_192 kb_41 194 rfl ?_
              refine kX12_isSign dX12_readAny_194 197 rfl hk_l0 kw6_194 (Nat.le_of_ble_eq_true rfl) (Nat.le_of_ble_eq_true rfl) h (fun r10 h => ?_)
              refine x_if_ne_b dX12_readAny_197 206 200 rfl rfl (fun hc => ?_) (fun hc => ?_)
              · have h := h.1 hc
                refine x_aload_n dX12_readAny_206 rfl 207 rfl ?_
                refine x_aload_n dX12_readAny_207 rfl 208 rfl ?_
                refine gf12_28 dX12_readAny_208 211 rfl hk_l0 kw5_187 ?_
                refine x_iconst dX12_readAny_211 kc_1 212 rfl ?_
                refine x_isub dX12_readAny_212 213 rfl ?_
                refine pf12_28 dX12_readAny_213 216 rfl hk_l0 kw5_187 (x_mem (fun M11 hM11 => ?_))
                have h := h M11 hM11
                refine x_iload_n dX12_readAny_216 rfl 217 rfl ?_
                refine x_iconst dX12_readAny_217 kc_1 218 rfl ?_
                refine x_isub dX12_readAny_218 219 rfl ?_
                refine x_istore_n dX12_readAny_219 (Nat.le_of_ble_eq_true rfl) [(0, .ref l0), (1, .int (l1 - 1)), (2, .int l2)] rfl 220 rfl ?_
                refine x_aload_n dX12_readAny_220 rfl 221 rfl ?_
                refine x_aload_n dX12_readAny_221 rfl 222 rfl ?_
                refine gf12_26 dX12_readAny_222 225 rfl hk_l0 kw5_185 ?_
                refine x_iconst dX12_readAny_225 kc_1 226 rfl ?_
                refine x_isub dX12_readAny_226 227 rfl ?_
                refine pf12_26 dX12_readAny_227 230 rfl hk_l0 kw5_185 (x_mem (fun M12 hM12 => ?_))
                have h := h M12 hM12
                refine x_aload_n dX12_readAny_230 rfl 231 rfl ?_
                refine x_bipush dX12_readAny_231 kb_9 233 rfl ?_
                refine kX12_settles dX12_readAny_233 236 rfl hk_l0 kw7_18 (Nat.le_of_ble_eq_true rfl) (Nat.le_of_ble_eq_true rfl) h (fun M13 h => ?_)
                refine x_aload_n dX12_readAny_236 rfl 237 rfl ?_
                refine kX12_reads dX12_readAny_237 240 rfl hk_l0 kw6_146 (Nat.le_of_ble_eq_true rfl) (Nat.le_of_ble_eq_true rfl) h (fun M14 h => ?_)
                refine x_goto dX12_readAny_240 9 rfl ?_
                exact hB9 _ _ _ h
              · have h := h.2 hc
                refine x_aload_n dX12_readAny_200 rfl 201 rfl ?_
                refine x_iconst dX12_readAny_201 kc_1 202 rfl ?_
                refine kX12_errs dX12_readAny_202 205 rfl hk_l0 kw6_178 (Nat.le_of_ble_eq_true rfl) (Nat.le_of_ble_eq_true rfl) h (fun r16 M15 h => ?_)
                exact x_iret dX12_readAny_205 h
            · have h := h.2 hc
              refine x_iconst dX12_readAny_189 kc_0 190 rfl ?_
              exact x_iret dX12_readAny_190 h
          · have h := h.2 hc
            refine x_aload_n dX12_readAny_146 rfl 147 rfl ?_
            refine x_bipush dX12_readAny_147 kb_10 149 rfl ?_
            refine kX12_settles dX12_readAny_149 152 rfl hk_l0 kw7_18 (Nat.le_of_ble_eq_true rfl) (Nat.le_of_ble_eq_true rfl) h (fun M17 h => ?_)
            refine x_aload_n dX12_readAny_152 rfl 153 rfl ?_
            refine x_bipush dX12_readAny_153 kb_11 155 rfl ?_
            refine kX12_settles dX12_readAny_155 158 rfl hk_l0 kw7_18 (Nat.le_of_ble_eq_true rfl) (Nat.le_of_ble_eq_true rfl) h (fun M18 h => ?_)
            refine x_aload_n dX12_readAny_158 rfl 159 rfl ?_
            refine x_bipush dX12_readAny_159 kb_11 161 rfl ?_
            refine kX12_waits dX12_readAny_161 164 rfl hk_l0 kw7_10 (Nat.le_of_ble_eq_true rfl) (Nat.le_of_ble_eq_true rfl) h (fun M19 h => ?_)
            refine x_aload_n dX12_readAny_164 rfl 165 rfl ?_
            refine kX12_reads dX12_readAny_165 168 rfl hk_l0 kw6_146 (Nat.le_of_ble_eq_true rfl) (Nat.le_of_ble_eq_true rfl) h (fun M20 h => ?_)
            refine x_iconst dX12_readAny_168 kc_1 169 rfl ?_
            refine x_istore_n dX12_readAny_169 (Nat.le_of_ble_eq_true rfl) [(0, .ref l0), (1, .int l1), (2, .int 1)] rfl 170 rfl ?_
            refine x_goto dX12_readAny_170 9 rfl ?_
            exact hB9 _ _ _ h
        · have h := h.2 hc
          refine x_aload_n dX12_readAny_117 rfl 118 rfl ?_
          refine x_bipush dX12_readAny_118 kb_10 120 rfl ?_
          refine kX12_settles dX12_readAny_120 123 rfl hk_l0 kw7_18 (Nat.le_of_ble_eq_true rfl) (Nat.le_of_ble_eq_true rfl) h (fun M21 h => ?_)
          refine x_aload_n dX12_readAny_123 rfl 124 rfl ?_
          refine x_bipush dX12_readAny_124 kb_10 126 rfl ?_
          refine kX12_waits dX12_readAny_126 129 rfl hk_l0 kw7_10 (Nat.le_of_ble_eq_true rfl) (Nat.le_of_ble_eq_true rfl) h (fun M22 h => ?_)
          refine x_aload_n dX12_readAny_129 rfl 130 rfl ?_
          refine kX12_reads dX12_readAny_130 133 rfl hk_l0 kw6_146 (Nat.le_of_ble_eq_true rfl) (Nat.le_of_ble_eq_true rfl) h (fun M23 h => ?_)
          refine x_iconst dX12_readAny_133 kc_1 134 rfl ?_
          refine x_istore_n dX12_readAny_134 (Nat.le_of_ble_eq_true rfl) [(0, .ref l0), (1, .int l1), (2, .int 1)] rfl 135 rfl ?_
          refine x_goto dX12_readAny_135 9 rfl ?_
          exact hB9 _ _ _ h
      · have h := h.2 hc
        refine x_aload_n dX12_readAny_13 rfl 14 rfl ?_
        refine x_bipush dX12_readAny_14 kb_6 16 rfl ?_
        refine kX12_isWord dX12_readAny_16 19 rfl hk_l0 kw6_174 (Nat.le_of_ble_eq_true rfl) (Nat.le_of_ble_eq_true rfl) h (fun r24 h => ?_)
        refine x_istore_n dX12_readAny_19 (Nat.le_of_ble_eq_true rfl) [(0, .ref l0), (1, .int l1), (2, .int l2), (3, .int (bI r24))] rfl 20 rfl ?_
        refine x_iload_n dX12_readAny_20 rfl 21 rfl ?_
        refine x_if_ne dX12_readAny_21 33 24 rfl rfl (fun hc => ?_) (fun hc => ?_)
        · have h := h.1 hc
          exact nX12_readAny_33 hB9 hk_l0 h
        · have h := h.2 hc
          refine x_aload_n dX12_readAny_24 rfl 25 rfl ?_
          refine x_bipush dX12_readAny_25 kb_40 27 rfl ?_
          refine kX12_isSign dX12_readAny_27 30 rfl hk_l0 kw6_194 (Nat.le_of_ble_eq_true rfl) (Nat.le_of_ble_eq_true rfl) h (fun r25 h => ?_)
          refine x_if_eq_b dX12_readAny_30 88 33 rfl rfl (fun hc => ?_) (fun hc => ?_)
          · have h := h.1 hc
            refine x_aload_n dX12_readAny_88 rfl 89 rfl ?_
            refine kX12_readCompared dX12_readAny_89 92 rfl hk_l0 kw7_14 (Nat.le_of_ble_eq_true rfl) (Nat.le_of_ble_eq_true rfl) h (fun r27 M26 h => ?_)
            refine x_iconst dX12_readAny_92 kc_m1 93 rfl ?_
            refine x_icmp_ne dX12_readAny_93 98 96 rfl rfl (fun hc => ?_) (fun hc => ?_)
            · have h := h.1 hc
              refine x_aload_n dX12_readAny_98 rfl 99 rfl ?_
              refine x_bipush dX12_readAny_99 kb_9 101 rfl ?_
              refine kX12_settles dX12_readAny_101 104 rfl hk_l0 kw7_18 (Nat.le_of_ble_eq_true rfl) (Nat.le_of_ble_eq_true rfl) h (fun M28 h => ?_)
              refine x_iconst dX12_readAny_104 kc_0 105 rfl ?_
              refine x_istore_n dX12_readAny_105 (Nat.le_of_ble_eq_true rfl) [(0, .ref l0), (1, .int l1), (2, .int 0), (3, .int (bI r24))] rfl 106 rfl ?_
              refine x_goto dX12_readAny_106 9 rfl ?_
              refine x_weak [(0, .ref l0), (1, .int l1), (2, .int 0)] [0, 1, 2] rfl ?_
              exact hB9 _ _ _ h
            · have h := h.2 hc
              refine x_iconst dX12_readAny_96 kc_m1 97 rfl ?_
              exact x_iret dX12_readAny_97 h
          · have h := h.2 hc
            exact nX12_readAny_33 hB9 hk_l0 h
  exact hB9 n l1 l2 M h
def FX12_readAny (Q : Int32 → Mem → Prop) (l0 : Nat) (M : Mem) : Prop :=
  ∀ M29 : Mem, M29 = xu M l0 28 0 → NX12_readAny_9 Q l0 0 1 M29
theorem eX12_readAny {Q : Int32 → Mem → Prop} {l0 : Nat} {M : Mem} (hk_l0 : SHk l0 = 12) (h : FX12_readAny Q l0 M) : xX RX12 cX12_readAny 4 (some .int) 8 0 [(0, .ref l0)] [] M (xQi Q) := by
  unfold FX12_readAny at h
  refine x_iconst dX12_readAny_0 kc_0 1 rfl ?_
  refine x_istore_n dX12_readAny_1 (Nat.le_of_ble_eq_true rfl) [(0, .ref l0), (1, .int 0)] rfl 2 rfl ?_
  refine x_aload_n dX12_readAny_2 rfl 3 rfl ?_
  refine x_iconst dX12_readAny_3 kc_0 4 rfl ?_
  refine pf12_28 dX12_readAny_4 7 rfl hk_l0 kw5_187 (x_mem (fun M29 hM29 => ?_))
  have h := h M29 hM29
  refine x_iconst dX12_readAny_7 kc_1 8 rfl ?_
  refine x_istore_n dX12_readAny_8 (Nat.le_of_ble_eq_true rfl) [(0, .ref l0), (1, .int 0), (2, .int 1)] rfl 9 rfl ?_
  exact nX12_readAny_9 hk_l0 h
theorem cX12_readAny_ {Q : Int32 → Mem → Prop} {l0 : Nat} {M : Mem} (hk_l0 : SHk l0 = 12) (h : FX12_readAny Q l0 M) : xM yX12_readAny cX12_readAny 4 (some .int) 8 [.ref l0] M (xQi Q) := xM_of (by decide +kernel) (Nat.le_of_ble_eq_true rfl) (eX12_readAny hk_l0 h)
theorem kX12_readAny {own : String} {cc : ByteArray} {nL : Nat} {rt : Option FieldType} {d pc ix : Nat} {L : List (Nat × Value)} {st : List Value} {M : Mem} {Rt : xGt → Array Value → State → Outcome → State → Prop} {Q : Int32 → Mem → Prop} {l0 : Nat} (hd : decode cc pc = .ok (.invokevirtual ix, 3)) (q : Nat) (hq : pc + 3 = q) (hk_l0 : SHk l0 = 12) (w1 : Cond.methodLink own ix yX12_readAny ∈ xTs) (hr : 8 < d) (hst : (st.map fun v => v.category).sum ≤ 8) (h : FX12_readAny Q l0 M) (k : ∀ (r : Int32) (N : Mem), Q r N → xX own cc nL rt d q L (.int r :: st) N Rt) : xX own cc nL rt d pc L (.ref l0 :: st) M Rt :=
  x_callV_i (n := 0) (As := []) hd q hq hk_l0 (by decide) rfl rfl w1 kw7_8 ks5_5 kw1_14 kw7_9 (by decide +kernel) rfl hr (by decide) hst _ rfl (cX12_readAny_ hk_l0 h) k
def FX12_isLineWord (Q : Bool → Prop) (l0 : Nat) (M : Mem) : Prop :=
  ((¬ (M l0 14) = 2 → Q false) ∧ ((M l0 14) = 2 → FX12_isIn (fun (r1 : Bool) => ((r1 = false → Q false) ∧ (r1 = true → Q true))) l0 (M l0 15) 0 2 M))
theorem eX12_isLineWord {Q : Bool → Prop} {l0 : Nat} {M : Mem} (hk_l0 : SHk l0 = 12) (h : FX12_isLineWord Q l0 M) : xX RX12 cX12_isLineWord 1 (some .boolean) 2 0 [(0, .ref l0)] [] M (xQb (xP M Q)) := by
  unfold FX12_isLineWord at h
  refine x_aload_n dX12_isLineWord_0 rfl 1 rfl ?_
  refine gf12_14 dX12_isLineWord_1 4 rfl hk_l0 kw5_173 ?_
  refine x_iconst dX12_isLineWord_4 kc_2 5 rfl ?_
  refine x_icmp_ne dX12_isLineWord_5 25 8 rfl rfl (fun hc => ?_) (fun hc => ?_)
  · have h := h.1 hc
    refine x_iconst dX12_isLineWord_25 kc_0 26 rfl ?_
    exact x_zret (z := false) dX12_isLineWord_26 ⟨rfl, h⟩
  · have h := h.2 hc
    refine x_aload_n dX12_isLineWord_8 rfl 9 rfl ?_
    refine x_aload_n dX12_isLineWord_9 rfl 10 rfl ?_
    refine gf12_15 dX12_isLineWord_10 13 rfl hk_l0 kw5_174 ?_
    refine x_iconst dX12_isLineWord_13 kc_0 14 rfl ?_
    refine x_iconst dX12_isLineWord_14 kc_2 15 rfl ?_
    refine kX12_isIn dX12_isLineWord_15 18 rfl hk_l0 kw6_82 (Nat.le_of_ble_eq_true rfl) (Nat.le_of_ble_eq_true rfl) h (fun r1 h => ?_)
    refine x_if_eq_b dX12_isLineWord_18 25 21 rfl rfl (fun hc => ?_) (fun hc => ?_)
    · have h := h.1 hc
      refine x_iconst dX12_isLineWord_25 kc_0 26 rfl ?_
      exact x_zret (z := false) dX12_isLineWord_26 ⟨rfl, h⟩
    · have h := h.2 hc
      refine x_iconst dX12_isLineWord_21 kc_1 22 rfl ?_
      refine x_goto dX12_isLineWord_22 26 rfl ?_
      exact x_zret (z := true) dX12_isLineWord_26 ⟨rfl, h⟩
theorem cX12_isLineWord_ {Q : Bool → Prop} {l0 : Nat} {M : Mem} (hk_l0 : SHk l0 = 12) (h : FX12_isLineWord Q l0 M) : xM yX12_isLineWord cX12_isLineWord 1 (some .boolean) 2 [.ref l0] M (xQb (xP M Q)) := xM_of (by decide +kernel) (Nat.le_of_ble_eq_true rfl) (eX12_isLineWord hk_l0 h)
theorem kX12_isLineWord {own : String} {cc : ByteArray} {nL : Nat} {rt : Option FieldType} {d pc ix : Nat} {L : List (Nat × Value)} {st : List Value} {M : Mem} {Rt : xGt → Array Value → State → Outcome → State → Prop} {Q : Bool → Prop} {l0 : Nat} (hd : decode cc pc = .ok (.invokevirtual ix, 3)) (q : Nat) (hq : pc + 3 = q) (hk_l0 : SHk l0 = 12) (w1 : Cond.methodLink own ix yX12_isLineWord ∈ xTs) (hr : 2 < d) (hst : (st.map fun v => v.category).sum ≤ 8) (h : FX12_isLineWord Q l0 M) (k : ∀ (r : Bool), Q r → xX own cc nL rt d q L (.int (bI r) :: st) M Rt) : xX own cc nL rt d pc L (.ref l0 :: st) M Rt :=
  x_callV_b (n := 0) (As := []) hd q hq hk_l0 (by decide) rfl rfl w1 kw6_224 ks4_15 kw1_14 kw6_225 (by decide +kernel) rfl hr (by decide) hst _ rfl (cX12_isLineWord_ hk_l0 h) (fun r N hN => by obtain ⟨rfl, hN⟩ := hN; exact k r hN)
def NX12_readLaw_92 (Q : Int32 → Mem → Prop) (B2 : Int32 → Mem → Prop) (l0 : Nat) (l1 : Int32) (l2 : Int32) (M : Mem) : Prop :=
  vp_in l2 48 ∧ ∀ M1 : Mem, M1 = xu M (l0 + 12) (ix l2) (M l0 25) → FX12_isSign (fun (r2 : Bool) => ((r2 = true → FX12_reads (fun (M3 : Mem) => B2 (l1 + 1) M3) l0 M1) ∧ (r2 = false → FX12_errs (fun (r5 : Int32) (M4 : Mem) => Q r5 M4) l0 1 M1))) l0 59 M1
theorem nX12_readLaw_92 {Q : Int32 → Mem → Prop} {B2 : Int32 → Mem → Prop} {l0 : Nat} {l1 : Int32} {l2 : Int32} {M : Mem} (hB2 : ∀ (l1 : Int32) (M : Mem), B2 l1 M → xX RX12 cX12_readLaw 3 (some .int) 9 2 [(0, .ref l0), (1, .int l1)] [] M (xQi Q)) (hk_l0 : SHk l0 = 12) (h : NX12_readLaw_92 Q B2 l0 l1 l2 M) : xX RX12 cX12_readLaw 3 (some .int) 9 92 [(0, .ref l0), (1, .int l1), (2, .int l2)] [] M (xQi Q) := by
  unfold NX12_readLaw_92 at h
  refine x_aload_n dX12_readLaw_92 rfl 93 rfl ?_
  refine gf12_21 dX12_readLaw_93 96 rfl hk_l0 kw5_180 ?_
  refine x_iload_n dX12_readLaw_96 rfl 97 rfl ?_
  refine x_aload_n dX12_readLaw_97 rfl 98 rfl ?_
  refine gf12_25 dX12_readLaw_98 101 rfl hk_l0 kw5_184 ?_
  obtain ⟨hin, h⟩ := h
  refine x_iastore dX12_readLaw_101 (ly12_21 hk_l0) hin 102 rfl (x_mem (fun M1 hM1 => ?_))
  have h := h M1 hM1
  refine x_aload_n dX12_readLaw_102 rfl 103 rfl ?_
  refine x_bipush dX12_readLaw_103 kb_59 105 rfl ?_
  refine kX12_isSign dX12_readLaw_105 108 rfl hk_l0 kw6_194 (Nat.le_of_ble_eq_true rfl) (Nat.le_of_ble_eq_true rfl) h (fun r2 h => ?_)
  refine x_if_ne_b dX12_readLaw_108 117 111 rfl rfl (fun hc => ?_) (fun hc => ?_)
  · have h := h.1 hc
    refine x_aload_n dX12_readLaw_117 rfl 118 rfl ?_
    refine kX12_reads dX12_readLaw_118 121 rfl hk_l0 kw6_146 (Nat.le_of_ble_eq_true rfl) (Nat.le_of_ble_eq_true rfl) h (fun M3 h => ?_)
    refine x_iload_n dX12_readLaw_121 rfl 122 rfl ?_
    refine x_iconst dX12_readLaw_122 kc_1 123 rfl ?_
    refine x_iadd dX12_readLaw_123 124 rfl ?_
    refine x_istore_n dX12_readLaw_124 (Nat.le_of_ble_eq_true rfl) [(0, .ref l0), (1, .int (l1 + 1)), (2, .int l2)] rfl 125 rfl ?_
    refine x_goto dX12_readLaw_125 2 rfl ?_
    refine x_weak [(0, .ref l0), (1, .int (l1 + 1))] [0, 1] rfl ?_
    exact hB2 _ _ h
  · have h := h.2 hc
    refine x_aload_n dX12_readLaw_111 rfl 112 rfl ?_
    refine x_iconst dX12_readLaw_112 kc_1 113 rfl ?_
    refine kX12_errs dX12_readLaw_113 116 rfl hk_l0 kw6_178 (Nat.le_of_ble_eq_true rfl) (Nat.le_of_ble_eq_true rfl) h (fun r5 M4 h => ?_)
    exact x_iret dX12_readLaw_116 h
def lbX12_readLaw_2 (Q : Int32 → Mem → Prop) (l0 : Nat) (B2 : Int32 → Mem → Prop) (l1 : Int32) (M : Mem) : Prop :=
  FX12_isLineWord (fun (r6 : Bool) => ((r6 = false → ((¬ (M l0 14) = 0 → FX12_errs (fun (r8 : Int32) (M7 : Mem) => Q r8 M7) l0 1 M) ∧ ((M l0 14) = 0 → Q l1 M))) ∧ (r6 = true → ((¬ l1 = 16 → vp_in (32 + l1) 48 ∧ ∀ M9 : Mem, M9 = xu M (l0 + 9) (ix (32 + l1)) (M l0 15) → FX12_reads (fun (M10 : Mem) => vp_in (32 + l1) 48 ∧ ∀ M11 : Mem, M11 = xu M10 (l0 + 10) (ix (32 + l1)) (M10 l0 25) → FX12_readSum (fun (r13 : Int32) (M12 : Mem) => ((¬ r13 = (-1) → vp_in (32 + l1) 48 ∧ ∀ M14 : Mem, M14 = xu M12 (l0 + 11) (ix (32 + l1)) (M12 l0 25) → FX12_isWord (fun (r15 : Bool) => ((r15 = false → NX12_readLaw_92 Q B2 l0 l1 (32 + l1) M14) ∧ (r15 = true → FX12_reads (fun (M16 : Mem) => FX12_readAny (fun (r18 : Int32) (M17 : Mem) => ((¬ r18 = (-1) → NX12_readLaw_92 Q B2 l0 l1 (32 + l1) M17) ∧ (r18 = (-1) → Q (-1) M17))) l0 M16) l0 M14))) l0 3 M14) ∧ (r13 = (-1) → Q (-1) M12))) l0 M11) l0 M9) ∧ (l1 = 16 → FX12_errs (fun (r20 : Int32) (M19 : Mem) => Q r20 M19) l0 3 M))))) l0 M
def NX12_readLaw_2 (Q : Int32 → Mem → Prop) (l0 : Nat) (l1 : Int32) (M : Mem) : Prop := xlp (fun (B : Int32 × Mem → Prop) a => lbX12_readLaw_2 Q l0 (fun l1 M => B (l1, M)) a.1 a.2) (l1, M)
theorem nX12_readLaw_2 {Q : Int32 → Mem → Prop} {l0 : Nat} {l1 : Int32} {M : Mem} (hk_l0 : SHk l0 = 12) (h : NX12_readLaw_2 Q l0 l1 M) : xX RX12 cX12_readLaw 3 (some .int) 9 2 [(0, .ref l0), (1, .int l1)] [] M (xQi Q) := by
  obtain ⟨n, h⟩ := h
  have hB2 : ∀ (n : Nat) (l1 : Int32) (M : Mem), xlpn (fun (B : Int32 × Mem → Prop) a => lbX12_readLaw_2 Q l0 (fun l1 M => B (l1, M)) a.1 a.2) n (l1, M) → xX RX12 cX12_readLaw 3 (some .int) 9 2 [(0, .ref l0), (1, .int l1)] [] M (xQi Q) := by
    intro n
    induction n with
    | zero => intro l1 M h; exact False.elim h
    | succ n ih =>
      intro l1 M h
      have hB2 := ih
      have h : lbX12_readLaw_2 Q l0 (fun l1 M => xlpn (fun (B : Int32 × Mem → Prop) a => lbX12_readLaw_2 Q l0 (fun l1 M => B (l1, M)) a.1 a.2) n (l1, M)) l1 M := h
      unfold lbX12_readLaw_2 at h
      refine x_aload_n dX12_readLaw_2 rfl 3 rfl ?_
      refine kX12_isLineWord dX12_readLaw_3 6 rfl hk_l0 kw6_222 (Nat.le_of_ble_eq_true rfl) (Nat.le_of_ble_eq_true rfl) h (fun r6 h => ?_)
      refine x_if_eq_b dX12_readLaw_6 128 9 rfl rfl (fun hc => ?_) (fun hc => ?_)
      · have h := h.1 hc
        refine x_aload_n dX12_readLaw_128 rfl 129 rfl ?_
        refine gf12_14 dX12_readLaw_129 132 rfl hk_l0 kw5_173 ?_
        refine x_if_ne dX12_readLaw_132 139 135 rfl rfl (fun hc => ?_) (fun hc => ?_)
        · have h := h.1 hc
          refine x_aload_n dX12_readLaw_139 rfl 140 rfl ?_
          refine x_iconst dX12_readLaw_140 kc_1 141 rfl ?_
          refine kX12_errs dX12_readLaw_141 144 rfl hk_l0 kw6_178 (Nat.le_of_ble_eq_true rfl) (Nat.le_of_ble_eq_true rfl) h (fun r8 M7 h => ?_)
          exact x_iret dX12_readLaw_144 h
        · have h := h.2 hc
          refine x_iload_n dX12_readLaw_135 rfl 136 rfl ?_
          refine x_goto dX12_readLaw_136 144 rfl ?_
          exact x_iret dX12_readLaw_144 h
      · have h := h.2 hc
        refine x_iload_n dX12_readLaw_9 rfl 10 rfl ?_
        refine x_bipush dX12_readLaw_10 kb_16 12 rfl ?_
        refine x_icmp_ne dX12_readLaw_12 21 15 rfl rfl (fun hc => ?_) (fun hc => ?_)
        · have h := h.1 hc
          refine x_bipush dX12_readLaw_21 kb_32 23 rfl ?_
          refine x_iload_n dX12_readLaw_23 rfl 24 rfl ?_
          refine x_iadd dX12_readLaw_24 25 rfl ?_
          refine x_istore_n dX12_readLaw_25 (Nat.le_of_ble_eq_true rfl) [(0, .ref l0), (1, .int l1), (2, .int (32 + l1))] rfl 26 rfl ?_
          refine x_aload_n dX12_readLaw_26 rfl 27 rfl ?_
          refine gf12_18 dX12_readLaw_27 30 rfl hk_l0 kw5_177 ?_
          refine x_iload_n dX12_readLaw_30 rfl 31 rfl ?_
          refine x_aload_n dX12_readLaw_31 rfl 32 rfl ?_
          refine gf12_15 dX12_readLaw_32 35 rfl hk_l0 kw5_174 ?_
          obtain ⟨hin, h⟩ := h
          refine x_iastore dX12_readLaw_35 (ly12_18 hk_l0) hin 36 rfl (x_mem (fun M9 hM9 => ?_))
          have h := h M9 hM9
          refine x_aload_n dX12_readLaw_36 rfl 37 rfl ?_
          refine kX12_reads dX12_readLaw_37 40 rfl hk_l0 kw6_146 (Nat.le_of_ble_eq_true rfl) (Nat.le_of_ble_eq_true rfl) h (fun M10 h => ?_)
          refine x_aload_n dX12_readLaw_40 rfl 41 rfl ?_
          refine gf12_19 dX12_readLaw_41 44 rfl hk_l0 kw5_178 ?_
          refine x_iload_n dX12_readLaw_44 rfl 45 rfl ?_
          refine x_aload_n dX12_readLaw_45 rfl 46 rfl ?_
          refine gf12_25 dX12_readLaw_46 49 rfl hk_l0 kw5_184 ?_
          obtain ⟨hin, h⟩ := h
          refine x_iastore dX12_readLaw_49 (ly12_19 hk_l0) hin 50 rfl (x_mem (fun M11 hM11 => ?_))
          have h := h M11 hM11
          refine x_aload_n dX12_readLaw_50 rfl 51 rfl ?_
          refine kX12_readSum dX12_readLaw_51 54 rfl hk_l0 kw6_226 (Nat.le_of_ble_eq_true rfl) (Nat.le_of_ble_eq_true rfl) h (fun r13 M12 h => ?_)
          refine x_iconst dX12_readLaw_54 kc_m1 55 rfl ?_
          refine x_icmp_ne dX12_readLaw_55 60 58 rfl rfl (fun hc => ?_) (fun hc => ?_)
          · have h := h.1 hc
            refine x_aload_n dX12_readLaw_60 rfl 61 rfl ?_
            refine gf12_20 dX12_readLaw_61 64 rfl hk_l0 kw5_179 ?_
            refine x_iload_n dX12_readLaw_64 rfl 65 rfl ?_
            refine x_aload_n dX12_readLaw_65 rfl 66 rfl ?_
            refine gf12_25 dX12_readLaw_66 69 rfl hk_l0 kw5_184 ?_
            obtain ⟨hin, h⟩ := h
            refine x_iastore dX12_readLaw_69 (ly12_20 hk_l0) hin 70 rfl (x_mem (fun M14 hM14 => ?_))
            have h := h M14 hM14
            refine x_aload_n dX12_readLaw_70 rfl 71 rfl ?_
            refine x_iconst dX12_readLaw_71 kc_3 72 rfl ?_
            refine kX12_isWord dX12_readLaw_72 75 rfl hk_l0 kw6_174 (Nat.le_of_ble_eq_true rfl) (Nat.le_of_ble_eq_true rfl) h (fun r15 h => ?_)
            refine x_if_eq_b dX12_readLaw_75 92 78 rfl rfl (fun hc => ?_) (fun hc => ?_)
            · have h := h.1 hc
              exact nX12_readLaw_92 hB2 hk_l0 h
            · have h := h.2 hc
              refine x_aload_n dX12_readLaw_78 rfl 79 rfl ?_
              refine kX12_reads dX12_readLaw_79 82 rfl hk_l0 kw6_146 (Nat.le_of_ble_eq_true rfl) (Nat.le_of_ble_eq_true rfl) h (fun M16 h => ?_)
              refine x_aload_n dX12_readLaw_82 rfl 83 rfl ?_
              refine kX12_readAny dX12_readLaw_83 86 rfl hk_l0 kw7_6 (Nat.le_of_ble_eq_true rfl) (Nat.le_of_ble_eq_true rfl) h (fun r18 M17 h => ?_)
              refine x_iconst dX12_readLaw_86 kc_m1 87 rfl ?_
              refine x_icmp_ne dX12_readLaw_87 92 90 rfl rfl (fun hc => ?_) (fun hc => ?_)
              · have h := h.1 hc
                exact nX12_readLaw_92 hB2 hk_l0 h
              · have h := h.2 hc
                refine x_iconst dX12_readLaw_90 kc_m1 91 rfl ?_
                exact x_iret dX12_readLaw_91 h
          · have h := h.2 hc
            refine x_iconst dX12_readLaw_58 kc_m1 59 rfl ?_
            exact x_iret dX12_readLaw_59 h
        · have h := h.2 hc
          refine x_aload_n dX12_readLaw_15 rfl 16 rfl ?_
          refine x_iconst dX12_readLaw_16 kc_3 17 rfl ?_
          refine kX12_errs dX12_readLaw_17 20 rfl hk_l0 kw6_178 (Nat.le_of_ble_eq_true rfl) (Nat.le_of_ble_eq_true rfl) h (fun r20 M19 h => ?_)
          exact x_iret dX12_readLaw_20 h
  exact hB2 n l1 M h
def FX12_readLaw (Q : Int32 → Mem → Prop) (l0 : Nat) (M : Mem) : Prop :=
  NX12_readLaw_2 Q l0 0 M
theorem eX12_readLaw {Q : Int32 → Mem → Prop} {l0 : Nat} {M : Mem} (hk_l0 : SHk l0 = 12) (h : FX12_readLaw Q l0 M) : xX RX12 cX12_readLaw 3 (some .int) 9 0 [(0, .ref l0)] [] M (xQi Q) := by
  unfold FX12_readLaw at h
  refine x_iconst dX12_readLaw_0 kc_0 1 rfl ?_
  refine x_istore_n dX12_readLaw_1 (Nat.le_of_ble_eq_true rfl) [(0, .ref l0), (1, .int 0)] rfl 2 rfl ?_
  exact nX12_readLaw_2 hk_l0 h
theorem cX12_readLaw_ {Q : Int32 → Mem → Prop} {l0 : Nat} {M : Mem} (hk_l0 : SHk l0 = 12) (h : FX12_readLaw Q l0 M) : xM yX12_readLaw cX12_readLaw 3 (some .int) 9 [.ref l0] M (xQi Q) := xM_of (by decide +kernel) (Nat.le_of_ble_eq_true rfl) (eX12_readLaw hk_l0 h)
theorem kX12_readLaw {own : String} {cc : ByteArray} {nL : Nat} {rt : Option FieldType} {d pc ix : Nat} {L : List (Nat × Value)} {st : List Value} {M : Mem} {Rt : xGt → Array Value → State → Outcome → State → Prop} {Q : Int32 → Mem → Prop} {l0 : Nat} (hd : decode cc pc = .ok (.invokevirtual ix, 3)) (q : Nat) (hq : pc + 3 = q) (hk_l0 : SHk l0 = 12) (w1 : Cond.methodLink own ix yX12_readLaw ∈ xTs) (hr : 9 < d) (hst : (st.map fun v => v.category).sum ≤ 8) (h : FX12_readLaw Q l0 M) (k : ∀ (r : Int32) (N : Mem), Q r N → xX own cc nL rt d q L (.int r :: st) N Rt) : xX own cc nL rt d pc L (.ref l0 :: st) M Rt :=
  x_callV_i (n := 0) (As := []) hd q hq hk_l0 (by decide) rfl rfl w1 kw6_220 ks4_14 kw1_14 kw6_221 (by decide +kernel) rfl hr (by decide) hst _ rfl (cX12_readLaw_ hk_l0 h) k
def lbX12_takesLaw_107 (Q : Mem → Prop) (l0 : Nat) (l1 : Int32) (B107 : Int32 → Mem → Prop) (l2 : Int32) (M : Mem) : Prop :=
  (((M l0 25) ≤ l2 → vp_in (M l0 24) 2 ∧ ∀ M1 : Mem, M1 = xu M (l0 + 8) (ix (M l0 24)) l1 → Q M1) ∧ (¬ (M l0 25) ≤ l2 → vp_in (800 + l2) 1200 ∧ vp_in ((400 * (M l0 24)) + l2) 1200 ∧ ∀ M2 : Mem, M2 = xu M (l0 + 13) (ix ((400 * (M l0 24)) + l2)) (M (l0 + 13) (ix (800 + l2))) → vp_in (800 + l2) 1200 ∧ vp_in ((400 * (M2 l0 24)) + l2) 1200 ∧ ∀ M3 : Mem, M3 = xu M2 (l0 + 14) (ix ((400 * (M2 l0 24)) + l2)) (M2 (l0 + 14) (ix (800 + l2))) → B107 (l2 + 1) M3))
def NX12_takesLaw_107 (Q : Mem → Prop) (l0 : Nat) (l1 : Int32) (l2 : Int32) (M : Mem) : Prop := xlp (fun (B : Int32 × Mem → Prop) a => lbX12_takesLaw_107 Q l0 l1 (fun l2 M => B (l2, M)) a.1 a.2) (l2, M)
theorem nX12_takesLaw_107 {Q : Mem → Prop} {l0 : Nat} {l1 : Int32} {l2 : Int32} {M : Mem} (hk_l0 : SHk l0 = 12) (h : NX12_takesLaw_107 Q l0 l1 l2 M) : xX RX12 cX12_takesLaw 3 none 1 107 [(0, .ref l0), (1, .int l1), (2, .int l2)] [] M (xQv Q) := by
  obtain ⟨n, h⟩ := h
  have hB107 : ∀ (n : Nat) (l2 : Int32) (M : Mem), xlpn (fun (B : Int32 × Mem → Prop) a => lbX12_takesLaw_107 Q l0 l1 (fun l2 M => B (l2, M)) a.1 a.2) n (l2, M) → xX RX12 cX12_takesLaw 3 none 1 107 [(0, .ref l0), (1, .int l1), (2, .int l2)] [] M (xQv Q) := by
    intro n
    induction n with
    | zero => intro l2 M h; exact False.elim h
    | succ n ih =>
      intro l2 M h
      have hB107 := ih
      have h : lbX12_takesLaw_107 Q l0 l1 (fun l2 M => xlpn (fun (B : Int32 × Mem → Prop) a => lbX12_takesLaw_107 Q l0 l1 (fun l2 M => B (l2, M)) a.1 a.2) n (l2, M)) l2 M := h
      unfold lbX12_takesLaw_107 at h
      refine x_iload_n dX12_takesLaw_107 rfl 108 rfl ?_
      refine x_aload_n dX12_takesLaw_108 rfl 109 rfl ?_
      refine gf12_25 dX12_takesLaw_109 112 rfl hk_l0 kw5_184 ?_
      refine x_icmp_ge dX12_takesLaw_112 171 115 rfl rfl (fun hc => ?_) (fun hc => ?_)
      · have h := h.1 hc
        refine x_aload_n dX12_takesLaw_171 rfl 172 rfl ?_
        refine gf12_17 dX12_takesLaw_172 175 rfl hk_l0 kw5_176 ?_
        refine x_aload_n dX12_takesLaw_175 rfl 176 rfl ?_
        refine gf12_24 dX12_takesLaw_176 179 rfl hk_l0 kw5_183 ?_
        refine x_iload_n dX12_takesLaw_179 rfl 180 rfl ?_
        obtain ⟨hin, h⟩ := h
        refine x_iastore dX12_takesLaw_180 (ly12_17 hk_l0) hin 181 rfl (x_mem (fun M1 hM1 => ?_))
        have h := h M1 hM1
        exact x_vret dX12_takesLaw_181 h
      · have h := h.2 hc
        refine x_aload_n dX12_takesLaw_115 rfl 116 rfl ?_
        refine gf12_22 dX12_takesLaw_116 119 rfl hk_l0 kw5_181 ?_
        refine x_sipush dX12_takesLaw_119 kh_400 122 rfl ?_
        refine x_aload_n dX12_takesLaw_122 rfl 123 rfl ?_
        refine gf12_24 dX12_takesLaw_123 126 rfl hk_l0 kw5_183 ?_
        refine x_imul dX12_takesLaw_126 127 rfl ?_
        refine x_iload_n dX12_takesLaw_127 rfl 128 rfl ?_
        refine x_iadd dX12_takesLaw_128 129 rfl ?_
        refine x_aload_n dX12_takesLaw_129 rfl 130 rfl ?_
        refine gf12_22 dX12_takesLaw_130 133 rfl hk_l0 kw5_181 ?_
        refine x_sipush dX12_takesLaw_133 kh_800 136 rfl ?_
        refine x_iload_n dX12_takesLaw_136 rfl 137 rfl ?_
        refine x_iadd dX12_takesLaw_137 138 rfl ?_
        obtain ⟨hin, h⟩ := h
        refine x_iaload dX12_takesLaw_138 (ly12_22 hk_l0) hin 139 rfl ?_
        obtain ⟨hin, h⟩ := h
        refine x_iastore dX12_takesLaw_139 (ly12_22 hk_l0) hin 140 rfl (x_mem (fun M2 hM2 => ?_))
        have h := h M2 hM2
        refine x_aload_n dX12_takesLaw_140 rfl 141 rfl ?_
        refine gf12_23 dX12_takesLaw_141 144 rfl hk_l0 kw5_182 ?_
        refine x_sipush dX12_takesLaw_144 kh_400 147 rfl ?_
        refine x_aload_n dX12_takesLaw_147 rfl 148 rfl ?_
        refine gf12_24 dX12_takesLaw_148 151 rfl hk_l0 kw5_183 ?_
        refine x_imul dX12_takesLaw_151 152 rfl ?_
        refine x_iload_n dX12_takesLaw_152 rfl 153 rfl ?_
        refine x_iadd dX12_takesLaw_153 154 rfl ?_
        refine x_aload_n dX12_takesLaw_154 rfl 155 rfl ?_
        refine gf12_23 dX12_takesLaw_155 158 rfl hk_l0 kw5_182 ?_
        refine x_sipush dX12_takesLaw_158 kh_800 161 rfl ?_
        refine x_iload_n dX12_takesLaw_161 rfl 162 rfl ?_
        refine x_iadd dX12_takesLaw_162 163 rfl ?_
        obtain ⟨hin, h⟩ := h
        refine x_iaload dX12_takesLaw_163 (ly12_23 hk_l0) hin 164 rfl ?_
        obtain ⟨hin, h⟩ := h
        refine x_iastore dX12_takesLaw_164 (ly12_23 hk_l0) hin 165 rfl (x_mem (fun M3 hM3 => ?_))
        have h := h M3 hM3
        refine x_iinc dX12_takesLaw_165 rfl (congrArg (l2 + ·) kc_1) (Nat.le_of_ble_eq_true rfl) [(0, .ref l0), (1, .int l1), (2, .int (l2 + 1))] rfl 168 rfl ?_
        refine x_goto dX12_takesLaw_168 107 rfl ?_
        exact hB107 _ _ h
  exact hB107 n l2 M h
def lbX12_takesLaw_2 (Q : Mem → Prop) (l0 : Nat) (l1 : Int32) (B2 : Int32 → Mem → Prop) (l2 : Int32) (M : Mem) : Prop :=
  ((l1 ≤ l2 → NX12_takesLaw_107 Q l0 l1 0 M) ∧ (¬ l1 ≤ l2 → vp_in (32 + l2) 48 ∧ vp_in ((16 * (M l0 24)) + l2) 48 ∧ ∀ M4 : Mem, M4 = xu M (l0 + 9) (ix ((16 * (M l0 24)) + l2)) (M (l0 + 9) (ix (32 + l2))) → vp_in (32 + l2) 48 ∧ vp_in ((16 * (M4 l0 24)) + l2) 48 ∧ ∀ M5 : Mem, M5 = xu M4 (l0 + 10) (ix ((16 * (M4 l0 24)) + l2)) (M4 (l0 + 10) (ix (32 + l2))) → vp_in (32 + l2) 48 ∧ vp_in ((16 * (M5 l0 24)) + l2) 48 ∧ ∀ M6 : Mem, M6 = xu M5 (l0 + 11) (ix ((16 * (M5 l0 24)) + l2)) (M5 (l0 + 11) (ix (32 + l2))) → vp_in (32 + l2) 48 ∧ vp_in ((16 * (M6 l0 24)) + l2) 48 ∧ ∀ M7 : Mem, M7 = xu M6 (l0 + 12) (ix ((16 * (M6 l0 24)) + l2)) (M6 (l0 + 12) (ix (32 + l2))) → B2 (l2 + 1) M7))
def NX12_takesLaw_2 (Q : Mem → Prop) (l0 : Nat) (l1 : Int32) (l2 : Int32) (M : Mem) : Prop := xlp (fun (B : Int32 × Mem → Prop) a => lbX12_takesLaw_2 Q l0 l1 (fun l2 M => B (l2, M)) a.1 a.2) (l2, M)
theorem nX12_takesLaw_2 {Q : Mem → Prop} {l0 : Nat} {l1 : Int32} {l2 : Int32} {M : Mem} (hk_l0 : SHk l0 = 12) (h : NX12_takesLaw_2 Q l0 l1 l2 M) : xX RX12 cX12_takesLaw 3 none 1 2 [(0, .ref l0), (1, .int l1), (2, .int l2)] [] M (xQv Q) := by
  obtain ⟨n, h⟩ := h
  have hB2 : ∀ (n : Nat) (l2 : Int32) (M : Mem), xlpn (fun (B : Int32 × Mem → Prop) a => lbX12_takesLaw_2 Q l0 l1 (fun l2 M => B (l2, M)) a.1 a.2) n (l2, M) → xX RX12 cX12_takesLaw 3 none 1 2 [(0, .ref l0), (1, .int l1), (2, .int l2)] [] M (xQv Q) := by
    intro n
    induction n with
    | zero => intro l2 M h; exact False.elim h
    | succ n ih =>
      intro l2 M h
      have hB2 := ih
      have h : lbX12_takesLaw_2 Q l0 l1 (fun l2 M => xlpn (fun (B : Int32 × Mem → Prop) a => lbX12_takesLaw_2 Q l0 l1 (fun l2 M => B (l2, M)) a.1 a.2) n (l2, M)) l2 M := h
      unfold lbX12_takesLaw_2 at h
      refine x_iload_n dX12_takesLaw_2 rfl 3 rfl ?_
      refine x_iload_n dX12_takesLaw_3 rfl 4 rfl ?_
      refine x_icmp_ge dX12_takesLaw_4 105 7 rfl rfl (fun hc => ?_) (fun hc => ?_)
      · have h := h.1 hc
        refine x_iconst dX12_takesLaw_105 kc_0 106 rfl ?_
        refine x_istore_n dX12_takesLaw_106 (Nat.le_of_ble_eq_true rfl) [(0, .ref l0), (1, .int l1), (2, .int 0)] rfl 107 rfl ?_
        exact nX12_takesLaw_107 hk_l0 h
      · have h := h.2 hc
        refine x_aload_n dX12_takesLaw_7 rfl 8 rfl ?_
        refine gf12_18 dX12_takesLaw_8 11 rfl hk_l0 kw5_177 ?_
        refine x_bipush dX12_takesLaw_11 kb_16 13 rfl ?_
        refine x_aload_n dX12_takesLaw_13 rfl 14 rfl ?_
        refine gf12_24 dX12_takesLaw_14 17 rfl hk_l0 kw5_183 ?_
        refine x_imul dX12_takesLaw_17 18 rfl ?_
        refine x_iload_n dX12_takesLaw_18 rfl 19 rfl ?_
        refine x_iadd dX12_takesLaw_19 20 rfl ?_
        refine x_aload_n dX12_takesLaw_20 rfl 21 rfl ?_
        refine gf12_18 dX12_takesLaw_21 24 rfl hk_l0 kw5_177 ?_
        refine x_bipush dX12_takesLaw_24 kb_32 26 rfl ?_
        refine x_iload_n dX12_takesLaw_26 rfl 27 rfl ?_
        refine x_iadd dX12_takesLaw_27 28 rfl ?_
        obtain ⟨hin, h⟩ := h
        refine x_iaload dX12_takesLaw_28 (ly12_18 hk_l0) hin 29 rfl ?_
        obtain ⟨hin, h⟩ := h
        refine x_iastore dX12_takesLaw_29 (ly12_18 hk_l0) hin 30 rfl (x_mem (fun M4 hM4 => ?_))
        have h := h M4 hM4
        refine x_aload_n dX12_takesLaw_30 rfl 31 rfl ?_
        refine gf12_19 dX12_takesLaw_31 34 rfl hk_l0 kw5_178 ?_
        refine x_bipush dX12_takesLaw_34 kb_16 36 rfl ?_
        refine x_aload_n dX12_takesLaw_36 rfl 37 rfl ?_
        refine gf12_24 dX12_takesLaw_37 40 rfl hk_l0 kw5_183 ?_
        refine x_imul dX12_takesLaw_40 41 rfl ?_
        refine x_iload_n dX12_takesLaw_41 rfl 42 rfl ?_
        refine x_iadd dX12_takesLaw_42 43 rfl ?_
        refine x_aload_n dX12_takesLaw_43 rfl 44 rfl ?_
        refine gf12_19 dX12_takesLaw_44 47 rfl hk_l0 kw5_178 ?_
        refine x_bipush dX12_takesLaw_47 kb_32 49 rfl ?_
        refine x_iload_n dX12_takesLaw_49 rfl 50 rfl ?_
        refine x_iadd dX12_takesLaw_50 51 rfl ?_
        obtain ⟨hin, h⟩ := h
        refine x_iaload dX12_takesLaw_51 (ly12_19 hk_l0) hin 52 rfl ?_
        obtain ⟨hin, h⟩ := h
        refine x_iastore dX12_takesLaw_52 (ly12_19 hk_l0) hin 53 rfl (x_mem (fun M5 hM5 => ?_))
        have h := h M5 hM5
        refine x_aload_n dX12_takesLaw_53 rfl 54 rfl ?_
        refine gf12_20 dX12_takesLaw_54 57 rfl hk_l0 kw5_179 ?_
        refine x_bipush dX12_takesLaw_57 kb_16 59 rfl ?_
        refine x_aload_n dX12_takesLaw_59 rfl 60 rfl ?_
        refine gf12_24 dX12_takesLaw_60 63 rfl hk_l0 kw5_183 ?_
        refine x_imul dX12_takesLaw_63 64 rfl ?_
        refine x_iload_n dX12_takesLaw_64 rfl 65 rfl ?_
        refine x_iadd dX12_takesLaw_65 66 rfl ?_
        refine x_aload_n dX12_takesLaw_66 rfl 67 rfl ?_
        refine gf12_20 dX12_takesLaw_67 70 rfl hk_l0 kw5_179 ?_
        refine x_bipush dX12_takesLaw_70 kb_32 72 rfl ?_
        refine x_iload_n dX12_takesLaw_72 rfl 73 rfl ?_
        refine x_iadd dX12_takesLaw_73 74 rfl ?_
        obtain ⟨hin, h⟩ := h
        refine x_iaload dX12_takesLaw_74 (ly12_20 hk_l0) hin 75 rfl ?_
        obtain ⟨hin, h⟩ := h
        refine x_iastore dX12_takesLaw_75 (ly12_20 hk_l0) hin 76 rfl (x_mem (fun M6 hM6 => ?_))
        have h := h M6 hM6
        refine x_aload_n dX12_takesLaw_76 rfl 77 rfl ?_
        refine gf12_21 dX12_takesLaw_77 80 rfl hk_l0 kw5_180 ?_
        refine x_bipush dX12_takesLaw_80 kb_16 82 rfl ?_
        refine x_aload_n dX12_takesLaw_82 rfl 83 rfl ?_
        refine gf12_24 dX12_takesLaw_83 86 rfl hk_l0 kw5_183 ?_
        refine x_imul dX12_takesLaw_86 87 rfl ?_
        refine x_iload_n dX12_takesLaw_87 rfl 88 rfl ?_
        refine x_iadd dX12_takesLaw_88 89 rfl ?_
        refine x_aload_n dX12_takesLaw_89 rfl 90 rfl ?_
        refine gf12_21 dX12_takesLaw_90 93 rfl hk_l0 kw5_180 ?_
        refine x_bipush dX12_takesLaw_93 kb_32 95 rfl ?_
        refine x_iload_n dX12_takesLaw_95 rfl 96 rfl ?_
        refine x_iadd dX12_takesLaw_96 97 rfl ?_
        obtain ⟨hin, h⟩ := h
        refine x_iaload dX12_takesLaw_97 (ly12_21 hk_l0) hin 98 rfl ?_
        obtain ⟨hin, h⟩ := h
        refine x_iastore dX12_takesLaw_98 (ly12_21 hk_l0) hin 99 rfl (x_mem (fun M7 hM7 => ?_))
        have h := h M7 hM7
        refine x_iinc dX12_takesLaw_99 rfl (congrArg (l2 + ·) kc_1) (Nat.le_of_ble_eq_true rfl) [(0, .ref l0), (1, .int l1), (2, .int (l2 + 1))] rfl 102 rfl ?_
        refine x_goto dX12_takesLaw_102 2 rfl ?_
        exact hB2 _ _ h
  exact hB2 n l2 M h
def FX12_takesLaw (Q : Mem → Prop) (l0 : Nat) (l1 : Int32) (M : Mem) : Prop :=
  NX12_takesLaw_2 Q l0 l1 0 M
theorem eX12_takesLaw {Q : Mem → Prop} {l0 : Nat} {l1 : Int32} {M : Mem} (hk_l0 : SHk l0 = 12) (h : FX12_takesLaw Q l0 l1 M) : xX RX12 cX12_takesLaw 3 none 1 0 [(0, .ref l0), (1, .int l1)] [] M (xQv Q) := by
  unfold FX12_takesLaw at h
  refine x_iconst dX12_takesLaw_0 kc_0 1 rfl ?_
  refine x_istore_n dX12_takesLaw_1 (Nat.le_of_ble_eq_true rfl) [(0, .ref l0), (1, .int l1), (2, .int 0)] rfl 2 rfl ?_
  exact nX12_takesLaw_2 hk_l0 h
theorem cX12_takesLaw_ {Q : Mem → Prop} {l0 : Nat} {l1 : Int32} {M : Mem} (hk_l0 : SHk l0 = 12) (h : FX12_takesLaw Q l0 l1 M) : xM yX12_takesLaw cX12_takesLaw 3 none 1 [.ref l0, .int l1] M (xQv Q) := xM_of (by decide +kernel) (Nat.le_of_ble_eq_true rfl) (eX12_takesLaw hk_l0 h)
theorem kX12_takesLaw {own : String} {cc : ByteArray} {nL : Nat} {rt : Option FieldType} {d pc ix : Nat} {L : List (Nat × Value)} {st : List Value} {M : Mem} {Rt : xGt → Array Value → State → Outcome → State → Prop} {Q : Mem → Prop} {l0 : Nat} {l1 : Int32} (hd : decode cc pc = .ok (.invokevirtual ix, 3)) (q : Nat) (hq : pc + 3 = q) (hk_l0 : SHk l0 = 12) (w1 : Cond.methodLink own ix yX12_takesLaw ∈ xTs) (hr : 1 < d) (hst : (st.map fun v => v.category).sum ≤ 8) (h : FX12_takesLaw Q l0 l1 M) (k : ∀ (N : Mem), Q N → xX own cc nL rt d q L st N Rt) : xX own cc nL rt d pc L (.int l1 :: .ref l0 :: st) M Rt :=
  x_callV_v (n := 1) (As := [.int l1]) hd q hq hk_l0 (by decide) rfl rfl w1 kw7_24 ks5_9 kw1_14 kw7_25 (by decide +kernel) rfl hr (by decide) hst _ rfl (cX12_takesLaw_ hk_l0 h) k
def FX12_readNumber (Q : Int32 → Mem → Prop) (l0 : Nat) (l1 : Int32) (l2 : Int32) (M : Mem) : Prop :=
  (((M l0 14) = 3 → FX12_isIn (fun (r1 : Bool) => ((r1 = true → FX12_reads (fun (M2 : Mem) => Q (M l0 15) M2) l0 M) ∧ (r1 = false → FX12_errs (fun (r4 : Int32) (M3 : Mem) => Q r4 M3) l0 2 M))) l0 (M l0 15) l1 l2 M) ∧ (¬ (M l0 14) = 3 → FX12_errs (fun (r6 : Int32) (M5 : Mem) => Q r6 M5) l0 1 M))
theorem eX12_readNumber {Q : Int32 → Mem → Prop} {l0 : Nat} {l1 : Int32} {l2 : Int32} {M : Mem} (hk_l0 : SHk l0 = 12) (h : FX12_readNumber Q l0 l1 l2 M) : xX RX12 cX12_readNumber 4 (some .int) 4 0 [(0, .ref l0), (1, .int l1), (2, .int l2)] [] M (xQi Q) := by
  unfold FX12_readNumber at h
  refine x_aload_n dX12_readNumber_0 rfl 1 rfl ?_
  refine gf12_14 dX12_readNumber_1 4 rfl hk_l0 kw5_173 ?_
  refine x_iconst dX12_readNumber_4 kc_3 5 rfl ?_
  refine x_icmp_eq dX12_readNumber_5 14 8 rfl rfl (fun hc => ?_) (fun hc => ?_)
  · have h := h.1 hc
    refine x_aload_n dX12_readNumber_14 rfl 15 rfl ?_
    refine x_aload_n dX12_readNumber_15 rfl 16 rfl ?_
    refine gf12_15 dX12_readNumber_16 19 rfl hk_l0 kw5_174 ?_
    refine x_iload_n dX12_readNumber_19 rfl 20 rfl ?_
    refine x_iload_n dX12_readNumber_20 rfl 21 rfl ?_
    refine kX12_isIn dX12_readNumber_21 24 rfl hk_l0 kw6_82 (Nat.le_of_ble_eq_true rfl) (Nat.le_of_ble_eq_true rfl) h (fun r1 h => ?_)
    refine x_if_ne_b dX12_readNumber_24 33 27 rfl rfl (fun hc => ?_) (fun hc => ?_)
    · have h := h.1 hc
      refine x_aload_n dX12_readNumber_33 rfl 34 rfl ?_
      refine gf12_15 dX12_readNumber_34 37 rfl hk_l0 kw5_174 ?_
      refine x_istore_n dX12_readNumber_37 (Nat.le_of_ble_eq_true rfl) [(0, .ref l0), (1, .int l1), (2, .int l2), (3, .int (M l0 15))] rfl 38 rfl ?_
      refine x_aload_n dX12_readNumber_38 rfl 39 rfl ?_
      refine kX12_reads dX12_readNumber_39 42 rfl hk_l0 kw6_146 (Nat.le_of_ble_eq_true rfl) (Nat.le_of_ble_eq_true rfl) h (fun M2 h => ?_)
      refine x_iload_n dX12_readNumber_42 rfl 43 rfl ?_
      exact x_iret dX12_readNumber_43 h
    · have h := h.2 hc
      refine x_aload_n dX12_readNumber_27 rfl 28 rfl ?_
      refine x_iconst dX12_readNumber_28 kc_2 29 rfl ?_
      refine kX12_errs dX12_readNumber_29 32 rfl hk_l0 kw6_178 (Nat.le_of_ble_eq_true rfl) (Nat.le_of_ble_eq_true rfl) h (fun r4 M3 h => ?_)
      exact x_iret dX12_readNumber_32 h
  · have h := h.2 hc
    refine x_aload_n dX12_readNumber_8 rfl 9 rfl ?_
    refine x_iconst dX12_readNumber_9 kc_1 10 rfl ?_
    refine kX12_errs dX12_readNumber_10 13 rfl hk_l0 kw6_178 (Nat.le_of_ble_eq_true rfl) (Nat.le_of_ble_eq_true rfl) h (fun r6 M5 h => ?_)
    exact x_iret dX12_readNumber_13 h
theorem cX12_readNumber_ {Q : Int32 → Mem → Prop} {l0 : Nat} {l1 : Int32} {l2 : Int32} {M : Mem} (hk_l0 : SHk l0 = 12) (h : FX12_readNumber Q l0 l1 l2 M) : xM yX12_readNumber cX12_readNumber 4 (some .int) 4 [.ref l0, .int l1, .int l2] M (xQi Q) := xM_of (by decide +kernel) (Nat.le_of_ble_eq_true rfl) (eX12_readNumber hk_l0 h)
theorem kX12_readNumber {own : String} {cc : ByteArray} {nL : Nat} {rt : Option FieldType} {d pc ix : Nat} {L : List (Nat × Value)} {st : List Value} {M : Mem} {Rt : xGt → Array Value → State → Outcome → State → Prop} {Q : Int32 → Mem → Prop} {l0 : Nat} {l1 : Int32} {l2 : Int32} (hd : decode cc pc = .ok (.invokevirtual ix, 3)) (q : Nat) (hq : pc + 3 = q) (hk_l0 : SHk l0 = 12) (w1 : Cond.methodLink own ix yX12_readNumber ∈ xTs) (hr : 4 < d) (hst : (st.map fun v => v.category).sum ≤ 8) (h : FX12_readNumber Q l0 l1 l2 M) (k : ∀ (r : Int32) (N : Mem), Q r N → xX own cc nL rt d q L (.int r :: st) N Rt) : xX own cc nL rt d pc L (.int l2 :: .int l1 :: .ref l0 :: st) M Rt :=
  x_callV_i (n := 2) (As := [.int l1, .int l2]) hd q hq hk_l0 (by decide) rfl rfl w1 kw6_188 ks4_6 kw1_14 kw6_189 (by decide +kernel) rfl hr (by decide) hst _ rfl (cX12_readNumber_ hk_l0 h) k
def FX12_readMark (Q : Int32 → Mem → Prop) (l0 : Nat) (l1 : Int32) (M : Mem) : Prop :=
  FX12_isSign (fun (r1 : Bool) => ((r1 = true → FX12_reads (fun (M2 : Mem) => Q 0 M2) l0 M) ∧ (r1 = false → FX12_errs (fun (r4 : Int32) (M3 : Mem) => Q r4 M3) l0 1 M))) l0 l1 M
theorem eX12_readMark {Q : Int32 → Mem → Prop} {l0 : Nat} {l1 : Int32} {M : Mem} (hk_l0 : SHk l0 = 12) (h : FX12_readMark Q l0 l1 M) : xX RX12 cX12_readMark 2 (some .int) 4 0 [(0, .ref l0), (1, .int l1)] [] M (xQi Q) := by
  unfold FX12_readMark at h
  refine x_aload_n dX12_readMark_0 rfl 1 rfl ?_
  refine x_iload_n dX12_readMark_1 rfl 2 rfl ?_
  refine kX12_isSign dX12_readMark_2 5 rfl hk_l0 kw6_194 (Nat.le_of_ble_eq_true rfl) (Nat.le_of_ble_eq_true rfl) h (fun r1 h => ?_)
  refine x_if_ne_b dX12_readMark_5 14 8 rfl rfl (fun hc => ?_) (fun hc => ?_)
  · have h := h.1 hc
    refine x_aload_n dX12_readMark_14 rfl 15 rfl ?_
    refine kX12_reads dX12_readMark_15 18 rfl hk_l0 kw6_146 (Nat.le_of_ble_eq_true rfl) (Nat.le_of_ble_eq_true rfl) h (fun M2 h => ?_)
    refine x_iconst dX12_readMark_18 kc_0 19 rfl ?_
    exact x_iret dX12_readMark_19 h
  · have h := h.2 hc
    refine x_aload_n dX12_readMark_8 rfl 9 rfl ?_
    refine x_iconst dX12_readMark_9 kc_1 10 rfl ?_
    refine kX12_errs dX12_readMark_10 13 rfl hk_l0 kw6_178 (Nat.le_of_ble_eq_true rfl) (Nat.le_of_ble_eq_true rfl) h (fun r4 M3 h => ?_)
    exact x_iret dX12_readMark_13 h
theorem cX12_readMark_ {Q : Int32 → Mem → Prop} {l0 : Nat} {l1 : Int32} {M : Mem} (hk_l0 : SHk l0 = 12) (h : FX12_readMark Q l0 l1 M) : xM yX12_readMark cX12_readMark 2 (some .int) 4 [.ref l0, .int l1] M (xQi Q) := xM_of (by decide +kernel) (Nat.le_of_ble_eq_true rfl) (eX12_readMark hk_l0 h)
theorem kX12_readMark {own : String} {cc : ByteArray} {nL : Nat} {rt : Option FieldType} {d pc ix : Nat} {L : List (Nat × Value)} {st : List Value} {M : Mem} {Rt : xGt → Array Value → State → Outcome → State → Prop} {Q : Int32 → Mem → Prop} {l0 : Nat} {l1 : Int32} (hd : decode cc pc = .ok (.invokevirtual ix, 3)) (q : Nat) (hq : pc + 3 = q) (hk_l0 : SHk l0 = 12) (w1 : Cond.methodLink own ix yX12_readMark ∈ xTs) (hr : 4 < d) (hst : (st.map fun v => v.category).sum ≤ 8) (h : FX12_readMark Q l0 l1 M) (k : ∀ (r : Int32) (N : Mem), Q r N → xX own cc nL rt d q L (.int r :: st) N Rt) : xX own cc nL rt d pc L (.int l1 :: .ref l0 :: st) M Rt :=
  x_callV_i (n := 1) (As := [.int l1]) hd q hq hk_l0 (by decide) rfl rfl w1 kw6_192 ks4_7 kw1_14 kw6_193 (by decide +kernel) rfl hr (by decide) hst _ rfl (cX12_readMark_ hk_l0 h) k
def FX12_readTold (Q : Int32 → Mem → Prop) (l0 : Nat) (l1 : Int32) (l2 : Int32) (l3 : Int32) (M : Mem) : Prop :=
  FX12_isWord (fun (r1 : Bool) => ((r1 = true → FX12_reads (fun (M2 : Mem) => FX12_readNumber (fun (r4 : Int32) (M3 : Mem) => Q r4 M3) l0 l2 l3 M2) l0 M) ∧ (r1 = false → FX12_errs (fun (r6 : Int32) (M5 : Mem) => Q r6 M5) l0 1 M))) l0 l1 M
theorem eX12_readTold {Q : Int32 → Mem → Prop} {l0 : Nat} {l1 : Int32} {l2 : Int32} {l3 : Int32} {M : Mem} (hk_l0 : SHk l0 = 12) (h : FX12_readTold Q l0 l1 l2 l3 M) : xX RX12 cX12_readTold 4 (some .int) 5 0 [(0, .ref l0), (1, .int l1), (2, .int l2), (3, .int l3)] [] M (xQi Q) := by
  unfold FX12_readTold at h
  refine x_aload_n dX12_readTold_0 rfl 1 rfl ?_
  refine x_iload_n dX12_readTold_1 rfl 2 rfl ?_
  refine kX12_isWord dX12_readTold_2 5 rfl hk_l0 kw6_174 (Nat.le_of_ble_eq_true rfl) (Nat.le_of_ble_eq_true rfl) h (fun r1 h => ?_)
  refine x_if_ne_b dX12_readTold_5 14 8 rfl rfl (fun hc => ?_) (fun hc => ?_)
  · have h := h.1 hc
    refine x_aload_n dX12_readTold_14 rfl 15 rfl ?_
    refine kX12_reads dX12_readTold_15 18 rfl hk_l0 kw6_146 (Nat.le_of_ble_eq_true rfl) (Nat.le_of_ble_eq_true rfl) h (fun M2 h => ?_)
    refine x_aload_n dX12_readTold_18 rfl 19 rfl ?_
    refine x_iload_n dX12_readTold_19 rfl 20 rfl ?_
    refine x_iload_n dX12_readTold_20 rfl 21 rfl ?_
    refine kX12_readNumber dX12_readTold_21 24 rfl hk_l0 kw6_186 (Nat.le_of_ble_eq_true rfl) (Nat.le_of_ble_eq_true rfl) h (fun r4 M3 h => ?_)
    exact x_iret dX12_readTold_24 h
  · have h := h.2 hc
    refine x_aload_n dX12_readTold_8 rfl 9 rfl ?_
    refine x_iconst dX12_readTold_9 kc_1 10 rfl ?_
    refine kX12_errs dX12_readTold_10 13 rfl hk_l0 kw6_178 (Nat.le_of_ble_eq_true rfl) (Nat.le_of_ble_eq_true rfl) h (fun r6 M5 h => ?_)
    exact x_iret dX12_readTold_13 h
theorem cX12_readTold_ {Q : Int32 → Mem → Prop} {l0 : Nat} {l1 : Int32} {l2 : Int32} {l3 : Int32} {M : Mem} (hk_l0 : SHk l0 = 12) (h : FX12_readTold Q l0 l1 l2 l3 M) : xM yX12_readTold cX12_readTold 4 (some .int) 5 [.ref l0, .int l1, .int l2, .int l3] M (xQi Q) := xM_of (by decide +kernel) (Nat.le_of_ble_eq_true rfl) (eX12_readTold hk_l0 h)
theorem kX12_readTold {own : String} {cc : ByteArray} {nL : Nat} {rt : Option FieldType} {d pc ix : Nat} {L : List (Nat × Value)} {st : List Value} {M : Mem} {Rt : xGt → Array Value → State → Outcome → State → Prop} {Q : Int32 → Mem → Prop} {l0 : Nat} {l1 : Int32} {l2 : Int32} {l3 : Int32} (hd : decode cc pc = .ok (.invokevirtual ix, 3)) (q : Nat) (hq : pc + 3 = q) (hk_l0 : SHk l0 = 12) (w1 : Cond.methodLink own ix yX12_readTold ∈ xTs) (hr : 5 < d) (hst : (st.map fun v => v.category).sum ≤ 8) (h : FX12_readTold Q l0 l1 l2 l3 M) (k : ∀ (r : Int32) (N : Mem), Q r N → xX own cc nL rt d q L (.int r :: st) N Rt) : xX own cc nL rt d pc L (.int l3 :: .int l2 :: .int l1 :: .ref l0 :: st) M Rt :=
  x_callV_i (n := 3) (As := [.int l1, .int l2, .int l3]) hd q hq hk_l0 (by decide) rfl rfl w1 kw6_184 ks4_5 kw1_14 kw6_185 (by decide +kernel) rfl hr (by decide) hst _ rfl (cX12_readTold_ hk_l0 h) k
def lbX12_readSky_2 (Q : Int32 → Mem → Prop) (l0 : Nat) (B2 : Int32 → Mem → Prop) (l1 : Int32) (M : Mem) : Prop :=
  FX12_isWord (fun (r1 : Bool) => ((r1 = false → ((¬ (M l0 14) = 0 → FX12_errs (fun (r3 : Int32) (M2 : Mem) => Q r3 M2) l0 1 M) ∧ ((M l0 14) = 0 → Q l1 M))) ∧ (r1 = true → ((¬ l1 = 16 → FX12_readTold (fun (r5 : Int32) (M4 : Mem) => vp_in (32 + (2 * l1)) 64 ∧ ∀ M6 : Mem, M6 = xu M4 (l0 + 16) (ix (32 + (2 * l1))) r5 → vp_in (32 + (2 * l1)) 64 ∧ ((¬ (M6 (l0 + 16) (ix (32 + (2 * l1)))) = (-1) → FX12_readTold (fun (r8 : Int32) (M7 : Mem) => vp_in ((32 + (2 * l1)) + 1) 64 ∧ ∀ M9 : Mem, M9 = xu M7 (l0 + 16) (ix ((32 + (2 * l1)) + 1)) r8 → vp_in ((32 + (2 * l1)) + 1) 64 ∧ (((M9 (l0 + 16) (ix ((32 + (2 * l1)) + 1))) = (-1) → Q (-1) M9) ∧ (¬ (M9 (l0 + 16) (ix ((32 + (2 * l1)) + 1))) = (-1) → FX12_readMark (fun (r11 : Int32) (M10 : Mem) => ((¬ r11 = (-1) → B2 (l1 + 1) M10) ∧ (r11 = (-1) → Q (-1) M10))) l0 59 M9))) l0 16 0 9 M6) ∧ ((M6 (l0 + 16) (ix (32 + (2 * l1)))) = (-1) → Q (-1) M6))) l0 15 0 999 M) ∧ (l1 = 16 → FX12_errs (fun (r13 : Int32) (M12 : Mem) => Q r13 M12) l0 3 M))))) l0 15 M
def NX12_readSky_2 (Q : Int32 → Mem → Prop) (l0 : Nat) (l1 : Int32) (M : Mem) : Prop := xlp (fun (B : Int32 × Mem → Prop) a => lbX12_readSky_2 Q l0 (fun l1 M => B (l1, M)) a.1 a.2) (l1, M)
theorem nX12_readSky_2 {Q : Int32 → Mem → Prop} {l0 : Nat} {l1 : Int32} {M : Mem} (hk_l0 : SHk l0 = 12) (h : NX12_readSky_2 Q l0 l1 M) : xX RX12 cX12_readSky 3 (some .int) 6 2 [(0, .ref l0), (1, .int l1)] [] M (xQi Q) := by
  obtain ⟨n, h⟩ := h
  have hB2 : ∀ (n : Nat) (l1 : Int32) (M : Mem), xlpn (fun (B : Int32 × Mem → Prop) a => lbX12_readSky_2 Q l0 (fun l1 M => B (l1, M)) a.1 a.2) n (l1, M) → xX RX12 cX12_readSky 3 (some .int) 6 2 [(0, .ref l0), (1, .int l1)] [] M (xQi Q) := by
    intro n
    induction n with
    | zero => intro l1 M h; exact False.elim h
    | succ n ih =>
      intro l1 M h
      have hB2 := ih
      have h : lbX12_readSky_2 Q l0 (fun l1 M => xlpn (fun (B : Int32 × Mem → Prop) a => lbX12_readSky_2 Q l0 (fun l1 M => B (l1, M)) a.1 a.2) n (l1, M)) l1 M := h
      unfold lbX12_readSky_2 at h
      refine x_aload_n dX12_readSky_2 rfl 3 rfl ?_
      refine x_bipush dX12_readSky_3 kb_15 5 rfl ?_
      refine kX12_isWord dX12_readSky_5 8 rfl hk_l0 kw6_174 (Nat.le_of_ble_eq_true rfl) (Nat.le_of_ble_eq_true rfl) h (fun r1 h => ?_)
      refine x_if_eq_b dX12_readSky_8 106 11 rfl rfl (fun hc => ?_) (fun hc => ?_)
      · have h := h.1 hc
        refine x_aload_n dX12_readSky_106 rfl 107 rfl ?_
        refine gf12_14 dX12_readSky_107 110 rfl hk_l0 kw5_173 ?_
        refine x_if_ne dX12_readSky_110 117 113 rfl rfl (fun hc => ?_) (fun hc => ?_)
        · have h := h.1 hc
          refine x_aload_n dX12_readSky_117 rfl 118 rfl ?_
          refine x_iconst dX12_readSky_118 kc_1 119 rfl ?_
          refine kX12_errs dX12_readSky_119 122 rfl hk_l0 kw6_178 (Nat.le_of_ble_eq_true rfl) (Nat.le_of_ble_eq_true rfl) h (fun r3 M2 h => ?_)
          exact x_iret dX12_readSky_122 h
        · have h := h.2 hc
          refine x_iload_n dX12_readSky_113 rfl 114 rfl ?_
          refine x_goto dX12_readSky_114 122 rfl ?_
          exact x_iret dX12_readSky_122 h
      · have h := h.2 hc
        refine x_iload_n dX12_readSky_11 rfl 12 rfl ?_
        refine x_bipush dX12_readSky_12 kb_16 14 rfl ?_
        refine x_icmp_ne dX12_readSky_14 23 17 rfl rfl (fun hc => ?_) (fun hc => ?_)
        · have h := h.1 hc
          refine x_bipush dX12_readSky_23 kb_32 25 rfl ?_
          refine x_iconst dX12_readSky_25 kc_2 26 rfl ?_
          refine x_iload_n dX12_readSky_26 rfl 27 rfl ?_
          refine x_imul dX12_readSky_27 28 rfl ?_
          refine x_iadd dX12_readSky_28 29 rfl ?_
          refine x_istore_n dX12_readSky_29 (Nat.le_of_ble_eq_true rfl) [(0, .ref l0), (1, .int l1), (2, .int (32 + (2 * l1)))] rfl 30 rfl ?_
          refine x_aload_n dX12_readSky_30 rfl 31 rfl ?_
          refine gf12_34 dX12_readSky_31 34 rfl hk_l0 kw5_193 ?_
          refine x_iload_n dX12_readSky_34 rfl 35 rfl ?_
          refine x_aload_n dX12_readSky_35 rfl 36 rfl ?_
          refine x_bipush dX12_readSky_36 kb_15 38 rfl ?_
          refine x_iconst dX12_readSky_38 kc_0 39 rfl ?_
          refine x_sipush dX12_readSky_39 kh_999 42 rfl ?_
          refine kX12_readTold dX12_readSky_42 45 rfl hk_l0 kw6_182 (Nat.le_of_ble_eq_true rfl) (Nat.le_of_ble_eq_true rfl) h (fun r5 M4 h => ?_)
          obtain ⟨hin, h⟩ := h
          refine x_iastore dX12_readSky_45 (ly12_34 hk_l0) hin 46 rfl (x_mem (fun M6 hM6 => ?_))
          have h := h M6 hM6
          refine x_aload_n dX12_readSky_46 rfl 47 rfl ?_
          refine gf12_34 dX12_readSky_47 50 rfl hk_l0 kw5_193 ?_
          refine x_iload_n dX12_readSky_50 rfl 51 rfl ?_
          obtain ⟨hin, h⟩ := h
          refine x_iaload dX12_readSky_51 (ly12_34 hk_l0) hin 52 rfl ?_
          refine x_iconst dX12_readSky_52 kc_m1 53 rfl ?_
          refine x_icmp_ne dX12_readSky_53 58 56 rfl rfl (fun hc => ?_) (fun hc => ?_)
          · have h := h.1 hc
            refine x_aload_n dX12_readSky_58 rfl 59 rfl ?_
            refine gf12_34 dX12_readSky_59 62 rfl hk_l0 kw5_193 ?_
            refine x_iload_n dX12_readSky_62 rfl 63 rfl ?_
            refine x_iconst dX12_readSky_63 kc_1 64 rfl ?_
            refine x_iadd dX12_readSky_64 65 rfl ?_
            refine x_aload_n dX12_readSky_65 rfl 66 rfl ?_
            refine x_bipush dX12_readSky_66 kb_16 68 rfl ?_
            refine x_iconst dX12_readSky_68 kc_0 69 rfl ?_
            refine x_bipush dX12_readSky_69 kb_9 71 rfl ?_
            refine kX12_readTold dX12_readSky_71 74 rfl hk_l0 kw6_182 (Nat.le_of_ble_eq_true rfl) (Nat.le_of_ble_eq_true rfl) h (fun r8 M7 h => ?_)
            obtain ⟨hin, h⟩ := h
            refine x_iastore dX12_readSky_74 (ly12_34 hk_l0) hin 75 rfl (x_mem (fun M9 hM9 => ?_))
            have h := h M9 hM9
            refine x_aload_n dX12_readSky_75 rfl 76 rfl ?_
            refine gf12_34 dX12_readSky_76 79 rfl hk_l0 kw5_193 ?_
            refine x_iload_n dX12_readSky_79 rfl 80 rfl ?_
            refine x_iconst dX12_readSky_80 kc_1 81 rfl ?_
            refine x_iadd dX12_readSky_81 82 rfl ?_
            obtain ⟨hin, h⟩ := h
            refine x_iaload dX12_readSky_82 (ly12_34 hk_l0) hin 83 rfl ?_
            refine x_iconst dX12_readSky_83 kc_m1 84 rfl ?_
            refine x_icmp_eq dX12_readSky_84 97 87 rfl rfl (fun hc => ?_) (fun hc => ?_)
            · have h := h.1 hc
              refine x_iconst dX12_readSky_97 kc_m1 98 rfl ?_
              exact x_iret dX12_readSky_98 h
            · have h := h.2 hc
              refine x_aload_n dX12_readSky_87 rfl 88 rfl ?_
              refine x_bipush dX12_readSky_88 kb_59 90 rfl ?_
              refine kX12_readMark dX12_readSky_90 93 rfl hk_l0 kw6_190 (Nat.le_of_ble_eq_true rfl) (Nat.le_of_ble_eq_true rfl) h (fun r11 M10 h => ?_)
              refine x_iconst dX12_readSky_93 kc_m1 94 rfl ?_
              refine x_icmp_ne dX12_readSky_94 99 97 rfl rfl (fun hc => ?_) (fun hc => ?_)
              · have h := h.1 hc
                refine x_iload_n dX12_readSky_99 rfl 100 rfl ?_
                refine x_iconst dX12_readSky_100 kc_1 101 rfl ?_
                refine x_iadd dX12_readSky_101 102 rfl ?_
                refine x_istore_n dX12_readSky_102 (Nat.le_of_ble_eq_true rfl) [(0, .ref l0), (1, .int (l1 + 1)), (2, .int (32 + (2 * l1)))] rfl 103 rfl ?_
                refine x_goto dX12_readSky_103 2 rfl ?_
                refine x_weak [(0, .ref l0), (1, .int (l1 + 1))] [0, 1] rfl ?_
                exact hB2 _ _ h
              · have h := h.2 hc
                refine x_iconst dX12_readSky_97 kc_m1 98 rfl ?_
                exact x_iret dX12_readSky_98 h
          · have h := h.2 hc
            refine x_iconst dX12_readSky_56 kc_m1 57 rfl ?_
            exact x_iret dX12_readSky_57 h
        · have h := h.2 hc
          refine x_aload_n dX12_readSky_17 rfl 18 rfl ?_
          refine x_iconst dX12_readSky_18 kc_3 19 rfl ?_
          refine kX12_errs dX12_readSky_19 22 rfl hk_l0 kw6_178 (Nat.le_of_ble_eq_true rfl) (Nat.le_of_ble_eq_true rfl) h (fun r13 M12 h => ?_)
          exact x_iret dX12_readSky_22 h
  exact hB2 n l1 M h
def FX12_readSky (Q : Int32 → Mem → Prop) (l0 : Nat) (M : Mem) : Prop :=
  NX12_readSky_2 Q l0 0 M
theorem eX12_readSky {Q : Int32 → Mem → Prop} {l0 : Nat} {M : Mem} (hk_l0 : SHk l0 = 12) (h : FX12_readSky Q l0 M) : xX RX12 cX12_readSky 3 (some .int) 6 0 [(0, .ref l0)] [] M (xQi Q) := by
  unfold FX12_readSky at h
  refine x_iconst dX12_readSky_0 kc_0 1 rfl ?_
  refine x_istore_n dX12_readSky_1 (Nat.le_of_ble_eq_true rfl) [(0, .ref l0), (1, .int 0)] rfl 2 rfl ?_
  exact nX12_readSky_2 hk_l0 h
theorem cX12_readSky_ {Q : Int32 → Mem → Prop} {l0 : Nat} {M : Mem} (hk_l0 : SHk l0 = 12) (h : FX12_readSky Q l0 M) : xM yX12_readSky cX12_readSky 3 (some .int) 6 [.ref l0] M (xQi Q) := xM_of (by decide +kernel) (Nat.le_of_ble_eq_true rfl) (eX12_readSky hk_l0 h)
theorem kX12_readSky {own : String} {cc : ByteArray} {nL : Nat} {rt : Option FieldType} {d pc ix : Nat} {L : List (Nat × Value)} {st : List Value} {M : Mem} {Rt : xGt → Array Value → State → Outcome → State → Prop} {Q : Int32 → Mem → Prop} {l0 : Nat} (hd : decode cc pc = .ok (.invokevirtual ix, 3)) (q : Nat) (hq : pc + 3 = q) (hk_l0 : SHk l0 = 12) (w1 : Cond.methodLink own ix yX12_readSky ∈ xTs) (hr : 6 < d) (hst : (st.map fun v => v.category).sum ≤ 8) (h : FX12_readSky Q l0 M) (k : ∀ (r : Int32) (N : Mem), Q r N → xX own cc nL rt d q L (.int r :: st) N Rt) : xX own cc nL rt d pc L (.ref l0 :: st) M Rt :=
  x_callV_i (n := 0) (As := []) hd q hq hk_l0 (by decide) rfl rfl w1 kw6_172 ks4_2 kw1_14 kw6_173 (by decide +kernel) rfl hr (by decide) hst _ rfl (cX12_readSky_ hk_l0 h) k
def FX12_mostFor (Q : Int32 → Prop) (l0 : Nat) (l1 : Int32) (M : Mem) : Prop :=
  ((¬ l1 = 0 → ((¬ l1 = 1 → ((¬ l1 = 3 → Q ((M l0 7) - 1)) ∧ (l1 = 3 → Q ((M l0 6) - 1)))) ∧ (l1 = 1 → Q 99))) ∧ (l1 = 0 → Q 999))
theorem eX12_mostFor {Q : Int32 → Prop} {l0 : Nat} {l1 : Int32} {M : Mem} (hk_l0 : SHk l0 = 12) (h : FX12_mostFor Q l0 l1 M) : xX RX12 cX12_mostFor 2 (some .int) 1 0 [(0, .ref l0), (1, .int l1)] [] M (xQi (xP M Q)) := by
  unfold FX12_mostFor at h
  refine x_iload_n dX12_mostFor_0 rfl 1 rfl ?_
  refine x_if_ne dX12_mostFor_1 8 4 rfl rfl (fun hc => ?_) (fun hc => ?_)
  · have h := h.1 hc
    refine x_iload_n dX12_mostFor_8 rfl 9 rfl ?_
    refine x_iconst dX12_mostFor_9 kc_1 10 rfl ?_
    refine x_icmp_ne dX12_mostFor_10 16 13 rfl rfl (fun hc => ?_) (fun hc => ?_)
    · have h := h.1 hc
      refine x_iload_n dX12_mostFor_16 rfl 17 rfl ?_
      refine x_iconst dX12_mostFor_17 kc_3 18 rfl ?_
      refine x_icmp_ne dX12_mostFor_18 30 21 rfl rfl (fun hc => ?_) (fun hc => ?_)
      · have h := h.1 hc
        refine x_aload_n dX12_mostFor_30 rfl 31 rfl ?_
        refine gf12_7 dX12_mostFor_31 34 rfl hk_l0 kw5_166 ?_
        refine x_iconst dX12_mostFor_34 kc_1 35 rfl ?_
        refine x_isub dX12_mostFor_35 36 rfl ?_
        exact x_iret dX12_mostFor_36 ⟨rfl, h⟩
      · have h := h.2 hc
        refine x_aload_n dX12_mostFor_21 rfl 22 rfl ?_
        refine gf12_6 dX12_mostFor_22 25 rfl hk_l0 kw5_165 ?_
        refine x_iconst dX12_mostFor_25 kc_1 26 rfl ?_
        refine x_isub dX12_mostFor_26 27 rfl ?_
        refine x_goto dX12_mostFor_27 36 rfl ?_
        exact x_iret dX12_mostFor_36 ⟨rfl, h⟩
    · have h := h.2 hc
      refine x_bipush dX12_mostFor_13 kb_99 15 rfl ?_
      exact x_iret dX12_mostFor_15 ⟨rfl, h⟩
  · have h := h.2 hc
    refine x_sipush dX12_mostFor_4 kh_999 7 rfl ?_
    exact x_iret dX12_mostFor_7 ⟨rfl, h⟩
theorem cX12_mostFor_ {Q : Int32 → Prop} {l0 : Nat} {l1 : Int32} {M : Mem} (hk_l0 : SHk l0 = 12) (h : FX12_mostFor Q l0 l1 M) : xM yX12_mostFor cX12_mostFor 2 (some .int) 1 [.ref l0, .int l1] M (xQi (xP M Q)) := xM_of (by decide +kernel) (Nat.le_of_ble_eq_true rfl) (eX12_mostFor hk_l0 h)
theorem kX12_mostFor {own : String} {cc : ByteArray} {nL : Nat} {rt : Option FieldType} {d pc ix : Nat} {L : List (Nat × Value)} {st : List Value} {M : Mem} {Rt : xGt → Array Value → State → Outcome → State → Prop} {Q : Int32 → Prop} {l0 : Nat} {l1 : Int32} (hd : decode cc pc = .ok (.invokevirtual ix, 3)) (q : Nat) (hq : pc + 3 = q) (hk_l0 : SHk l0 = 12) (w1 : Cond.methodLink own ix yX12_mostFor ∈ xTs) (hr : 1 < d) (hst : (st.map fun v => v.category).sum ≤ 8) (h : FX12_mostFor Q l0 l1 M) (k : ∀ (r : Int32), Q r → xX own cc nL rt d q L (.int r :: st) M Rt) : xX own cc nL rt d pc L (.int l1 :: .ref l0 :: st) M Rt :=
  x_callV_i (n := 1) (As := [.int l1]) hd q hq hk_l0 (by decide) rfl rfl w1 kw6_208 ks4_11 kw1_14 kw6_209 (by decide +kernel) rfl hr (by decide) hst _ rfl (cX12_mostFor_ hk_l0 h) (fun r N hN => by obtain ⟨rfl, hN⟩ := hN; exact k r hN)
def NX12_readDeed_51 (Q : Int32 → Mem → Prop) (l0 : Nat) (M : Mem) : Prop :=
  FX12_errs (fun (r2 : Int32) (M1 : Mem) => Q r2 M1) l0 1 M
theorem nX12_readDeed_51 {Q : Int32 → Mem → Prop} {l0 : Nat} {M : Mem} (hk_l0 : SHk l0 = 12) (h : NX12_readDeed_51 Q l0 M) : xX RX12 cX12_readDeed 3 (some .int) 6 51 [(0, .ref l0)] [] M (xQi Q) := by
  unfold NX12_readDeed_51 at h
  refine x_aload_n dX12_readDeed_51 rfl 52 rfl ?_
  refine x_iconst dX12_readDeed_52 kc_1 53 rfl ?_
  refine kX12_errs dX12_readDeed_53 56 rfl hk_l0 kw6_178 (Nat.le_of_ble_eq_true rfl) (Nat.le_of_ble_eq_true rfl) h (fun r2 M1 h => ?_)
  exact x_iret dX12_readDeed_56 h
def NX12_readDeed_133 (Q : Int32 → Mem → Prop) (l0 : Nat) (l1 : Int32) (s0 : Nat) (s1 : Int32) (s2 : Int32) (M : Mem) : Prop :=
  vp_in s1 (SHn s0) ∧ ∀ M3 : Mem, M3 = xu M s0 (ix s1) s2 → vp_in (l1 + 3) 128 ∧ ((¬ (M3 (l0 + 17) (ix (l1 + 3))) = (-1) → FX12_readMark (fun (r5 : Int32) (M4 : Mem) => Q r5 M4) l0 59 M3) ∧ ((M3 (l0 + 17) (ix (l1 + 3))) = (-1) → Q (-1) M3))
theorem nX12_readDeed_133 {Q : Int32 → Mem → Prop} {l0 : Nat} {l1 : Int32} {s0 : Nat} {s1 : Int32} {s2 : Int32} {M : Mem} (hk_l0 : SHk l0 = 12) (hk_s0 : SHk s0 = 13) (h : NX12_readDeed_133 Q l0 l1 s0 s1 s2 M) : xX RX12 cX12_readDeed 3 (some .int) 6 133 [(0, .ref l0), (1, .int l1)] [.int s2, .int s1, .ref s0] M (xQi Q) := by
  unfold NX12_readDeed_133 at h
  obtain ⟨hin, h⟩ := h
  refine x_iastore dX12_readDeed_133 ⟨hk_s0, rfl⟩ hin 134 rfl (x_mem (fun M3 hM3 => ?_))
  have h := h M3 hM3
  refine x_aload_n dX12_readDeed_134 rfl 135 rfl ?_
  refine gf12_36 dX12_readDeed_135 138 rfl hk_l0 kw5_195 ?_
  refine x_iload_n dX12_readDeed_138 rfl 139 rfl ?_
  refine x_iconst dX12_readDeed_139 kc_3 140 rfl ?_
  refine x_iadd dX12_readDeed_140 141 rfl ?_
  obtain ⟨hin, h⟩ := h
  refine x_iaload dX12_readDeed_141 (ly12_36 hk_l0) hin 142 rfl ?_
  refine x_iconst dX12_readDeed_142 kc_m1 143 rfl ?_
  refine x_icmp_ne dX12_readDeed_143 150 146 rfl rfl (fun hc => ?_) (fun hc => ?_)
  · have h := h.1 hc
    refine x_aload_n dX12_readDeed_150 rfl 151 rfl ?_
    refine x_bipush dX12_readDeed_151 kb_59 153 rfl ?_
    refine kX12_readMark dX12_readDeed_153 156 rfl hk_l0 kw6_190 (Nat.le_of_ble_eq_true rfl) (Nat.le_of_ble_eq_true rfl) h (fun r5 M4 h => ?_)
    exact x_iret dX12_readDeed_156 h
  · have h := h.2 hc
    refine x_iconst dX12_readDeed_146 kc_m1 147 rfl ?_
    refine x_goto dX12_readDeed_147 156 rfl ?_
    exact x_iret dX12_readDeed_156 h
def FX12_readDeed (Q : Int32 → Mem → Prop) (l0 : Nat) (l1 : Int32) (M : Mem) : Prop :=
  FX12_readTold (fun (r7 : Int32) (M6 : Mem) => vp_in l1 128 ∧ ∀ M8 : Mem, M8 = xu M6 (l0 + 17) (ix l1) r7 → vp_in l1 128 ∧ ((¬ (M8 (l0 + 17) (ix l1)) = (-1) → ((¬ (M8 l0 14) = 2 → NX12_readDeed_51 Q l0 M8) ∧ ((M8 l0 14) = 2 → FX12_isIn (fun (r9 : Bool) => ((r9 = true → FX12_reads (fun (M10 : Mem) => vp_in (l1 + 1) 128 ∧ ∀ M11 : Mem, M11 = xu M10 (l0 + 17) (ix (l1 + 1)) ((M8 l0 15) - 18) → FX12_mostFor (fun (r12 : Int32) => FX12_readNumber (fun (r14 : Int32) (M13 : Mem) => vp_in (l1 + 2) 128 ∧ ∀ M15 : Mem, M15 = xu M13 (l0 + 17) (ix (l1 + 2)) r14 → vp_in (l1 + 2) 128 ∧ ((¬ (M15 (l0 + 17) (ix (l1 + 2))) = (-1) → ((¬ ((M8 l0 15) - 18) = 3 → NX12_readDeed_133 Q l0 l1 (l0 + 17) (l1 + 3) 0 M15) ∧ (((M8 l0 15) - 18) = 3 → FX12_readNumber (fun (r17 : Int32) (M16 : Mem) => NX12_readDeed_133 Q l0 l1 (l0 + 17) (l1 + 3) r17 M16) l0 1 99 M15))) ∧ ((M15 (l0 + 17) (ix (l1 + 2))) = (-1) → Q (-1) M15))) l0 0 r12 M11) l0 ((M8 l0 15) - 18) M11) l0 M8) ∧ (r9 = false → NX12_readDeed_51 Q l0 M8))) l0 (M8 l0 15) 18 22 M8))) ∧ ((M8 (l0 + 17) (ix l1)) = (-1) → Q (-1) M8))) l0 17 0 999 M
theorem eX12_readDeed {Q : Int32 → Mem → Prop} {l0 : Nat} {l1 : Int32} {M : Mem} (hk_l0 : SHk l0 = 12) (h : FX12_readDeed Q l0 l1 M) : xX RX12 cX12_readDeed 3 (some .int) 6 0 [(0, .ref l0), (1, .int l1)] [] M (xQi Q) := by
  unfold FX12_readDeed at h
  refine x_aload_n dX12_readDeed_0 rfl 1 rfl ?_
  refine gf12_36 dX12_readDeed_1 4 rfl hk_l0 kw5_195 ?_
  refine x_iload_n dX12_readDeed_4 rfl 5 rfl ?_
  refine x_aload_n dX12_readDeed_5 rfl 6 rfl ?_
  refine x_bipush dX12_readDeed_6 kb_17 8 rfl ?_
  refine x_iconst dX12_readDeed_8 kc_0 9 rfl ?_
  refine x_sipush dX12_readDeed_9 kh_999 12 rfl ?_
  refine kX12_readTold dX12_readDeed_12 15 rfl hk_l0 kw6_182 (Nat.le_of_ble_eq_true rfl) (Nat.le_of_ble_eq_true rfl) h (fun r7 M6 h => ?_)
  obtain ⟨hin, h⟩ := h
  refine x_iastore dX12_readDeed_15 (ly12_36 hk_l0) hin 16 rfl (x_mem (fun M8 hM8 => ?_))
  have h := h M8 hM8
  refine x_aload_n dX12_readDeed_16 rfl 17 rfl ?_
  refine gf12_36 dX12_readDeed_17 20 rfl hk_l0 kw5_195 ?_
  refine x_iload_n dX12_readDeed_20 rfl 21 rfl ?_
  obtain ⟨hin, h⟩ := h
  refine x_iaload dX12_readDeed_21 (ly12_36 hk_l0) hin 22 rfl ?_
  refine x_iconst dX12_readDeed_22 kc_m1 23 rfl ?_
  refine x_icmp_ne dX12_readDeed_23 28 26 rfl rfl (fun hc => ?_) (fun hc => ?_)
  · have h := h.1 hc
    refine x_aload_n dX12_readDeed_28 rfl 29 rfl ?_
    refine gf12_14 dX12_readDeed_29 32 rfl hk_l0 kw5_173 ?_
    refine x_iconst dX12_readDeed_32 kc_2 33 rfl ?_
    refine x_icmp_ne dX12_readDeed_33 51 36 rfl rfl (fun hc => ?_) (fun hc => ?_)
    · have h := h.1 hc
      refine x_weak [(0, .ref l0)] [0] rfl ?_
      exact nX12_readDeed_51 hk_l0 h
    · have h := h.2 hc
      refine x_aload_n dX12_readDeed_36 rfl 37 rfl ?_
      refine x_aload_n dX12_readDeed_37 rfl 38 rfl ?_
      refine gf12_15 dX12_readDeed_38 41 rfl hk_l0 kw5_174 ?_
      refine x_bipush dX12_readDeed_41 kb_18 43 rfl ?_
      refine x_bipush dX12_readDeed_43 kb_22 45 rfl ?_
      refine kX12_isIn dX12_readDeed_45 48 rfl hk_l0 kw6_82 (Nat.le_of_ble_eq_true rfl) (Nat.le_of_ble_eq_true rfl) h (fun r9 h => ?_)
      refine x_if_ne_b dX12_readDeed_48 57 51 rfl rfl (fun hc => ?_) (fun hc => ?_)
      · have h := h.1 hc
        refine x_aload_n dX12_readDeed_57 rfl 58 rfl ?_
        refine gf12_15 dX12_readDeed_58 61 rfl hk_l0 kw5_174 ?_
        refine x_bipush dX12_readDeed_61 kb_18 63 rfl ?_
        refine x_isub dX12_readDeed_63 64 rfl ?_
        refine x_istore_n dX12_readDeed_64 (Nat.le_of_ble_eq_true rfl) [(0, .ref l0), (1, .int l1), (2, .int ((M8 l0 15) - 18))] rfl 65 rfl ?_
        refine x_aload_n dX12_readDeed_65 rfl 66 rfl ?_
        refine kX12_reads dX12_readDeed_66 69 rfl hk_l0 kw6_146 (Nat.le_of_ble_eq_true rfl) (Nat.le_of_ble_eq_true rfl) h (fun M10 h => ?_)
        refine x_aload_n dX12_readDeed_69 rfl 70 rfl ?_
        refine gf12_36 dX12_readDeed_70 73 rfl hk_l0 kw5_195 ?_
        refine x_iload_n dX12_readDeed_73 rfl 74 rfl ?_
        refine x_iconst dX12_readDeed_74 kc_1 75 rfl ?_
        refine x_iadd dX12_readDeed_75 76 rfl ?_
        refine x_iload_n dX12_readDeed_76 rfl 77 rfl ?_
        obtain ⟨hin, h⟩ := h
        refine x_iastore dX12_readDeed_77 (ly12_36 hk_l0) hin 78 rfl (x_mem (fun M11 hM11 => ?_))
        have h := h M11 hM11
        refine x_aload_n dX12_readDeed_78 rfl 79 rfl ?_
        refine gf12_36 dX12_readDeed_79 82 rfl hk_l0 kw5_195 ?_
        refine x_iload_n dX12_readDeed_82 rfl 83 rfl ?_
        refine x_iconst dX12_readDeed_83 kc_2 84 rfl ?_
        refine x_iadd dX12_readDeed_84 85 rfl ?_
        refine x_aload_n dX12_readDeed_85 rfl 86 rfl ?_
        refine x_iconst dX12_readDeed_86 kc_0 87 rfl ?_
        refine x_aload_n dX12_readDeed_87 rfl 88 rfl ?_
        refine x_iload_n dX12_readDeed_88 rfl 89 rfl ?_
        refine kX12_mostFor dX12_readDeed_89 92 rfl hk_l0 kw6_206 (Nat.le_of_ble_eq_true rfl) (Nat.le_of_ble_eq_true rfl) h (fun r12 h => ?_)
        refine kX12_readNumber dX12_readDeed_92 95 rfl hk_l0 kw6_186 (Nat.le_of_ble_eq_true rfl) (Nat.le_of_ble_eq_true rfl) h (fun r14 M13 h => ?_)
        obtain ⟨hin, h⟩ := h
        refine x_iastore dX12_readDeed_95 (ly12_36 hk_l0) hin 96 rfl (x_mem (fun M15 hM15 => ?_))
        have h := h M15 hM15
        refine x_aload_n dX12_readDeed_96 rfl 97 rfl ?_
        refine gf12_36 dX12_readDeed_97 100 rfl hk_l0 kw5_195 ?_
        refine x_iload_n dX12_readDeed_100 rfl 101 rfl ?_
        refine x_iconst dX12_readDeed_101 kc_2 102 rfl ?_
        refine x_iadd dX12_readDeed_102 103 rfl ?_
        obtain ⟨hin, h⟩ := h
        refine x_iaload dX12_readDeed_103 (ly12_36 hk_l0) hin 104 rfl ?_
        refine x_iconst dX12_readDeed_104 kc_m1 105 rfl ?_
        refine x_icmp_ne dX12_readDeed_105 110 108 rfl rfl (fun hc => ?_) (fun hc => ?_)
        · have h := h.1 hc
          refine x_aload_n dX12_readDeed_110 rfl 111 rfl ?_
          refine gf12_36 dX12_readDeed_111 114 rfl hk_l0 kw5_195 ?_
          refine x_iload_n dX12_readDeed_114 rfl 115 rfl ?_
          refine x_iconst dX12_readDeed_115 kc_3 116 rfl ?_
          refine x_iadd dX12_readDeed_116 117 rfl ?_
          refine x_iload_n dX12_readDeed_117 rfl 118 rfl ?_
          refine x_iconst dX12_readDeed_118 kc_3 119 rfl ?_
          refine x_icmp_ne dX12_readDeed_119 132 122 rfl rfl (fun hc => ?_) (fun hc => ?_)
          · have h := h.1 hc
            refine x_iconst dX12_readDeed_132 kc_0 133 rfl ?_
            refine x_weak [(0, .ref l0), (1, .int l1)] [0, 1] rfl ?_
            exact nX12_readDeed_133 hk_l0 (ly12_36 hk_l0).1 h
          · have h := h.2 hc
            refine x_aload_n dX12_readDeed_122 rfl 123 rfl ?_
            refine x_iconst dX12_readDeed_123 kc_1 124 rfl ?_
            refine x_bipush dX12_readDeed_124 kb_99 126 rfl ?_
            refine kX12_readNumber dX12_readDeed_126 129 rfl hk_l0 kw6_186 (Nat.le_of_ble_eq_true rfl) (Nat.le_of_ble_eq_true rfl) h (fun r17 M16 h => ?_)
            refine x_goto dX12_readDeed_129 133 rfl ?_
            refine x_weak [(0, .ref l0), (1, .int l1)] [0, 1] rfl ?_
            exact nX12_readDeed_133 hk_l0 (ly12_36 hk_l0).1 h
        · have h := h.2 hc
          refine x_iconst dX12_readDeed_108 kc_m1 109 rfl ?_
          exact x_iret dX12_readDeed_109 h
      · have h := h.2 hc
        refine x_weak [(0, .ref l0)] [0] rfl ?_
        exact nX12_readDeed_51 hk_l0 h
  · have h := h.2 hc
    refine x_iconst dX12_readDeed_26 kc_m1 27 rfl ?_
    exact x_iret dX12_readDeed_27 h
theorem cX12_readDeed_ {Q : Int32 → Mem → Prop} {l0 : Nat} {l1 : Int32} {M : Mem} (hk_l0 : SHk l0 = 12) (h : FX12_readDeed Q l0 l1 M) : xM yX12_readDeed cX12_readDeed 3 (some .int) 6 [.ref l0, .int l1] M (xQi Q) := xM_of (by decide +kernel) (Nat.le_of_ble_eq_true rfl) (eX12_readDeed hk_l0 h)
theorem kX12_readDeed {own : String} {cc : ByteArray} {nL : Nat} {rt : Option FieldType} {d pc ix : Nat} {L : List (Nat × Value)} {st : List Value} {M : Mem} {Rt : xGt → Array Value → State → Outcome → State → Prop} {Q : Int32 → Mem → Prop} {l0 : Nat} {l1 : Int32} (hd : decode cc pc = .ok (.invokevirtual ix, 3)) (q : Nat) (hq : pc + 3 = q) (hk_l0 : SHk l0 = 12) (w1 : Cond.methodLink own ix yX12_readDeed ∈ xTs) (hr : 6 < d) (hst : (st.map fun v => v.category).sum ≤ 8) (h : FX12_readDeed Q l0 l1 M) (k : ∀ (r : Int32) (N : Mem), Q r N → xX own cc nL rt d q L (.int r :: st) N Rt) : xX own cc nL rt d pc L (.int l1 :: .ref l0 :: st) M Rt :=
  x_callV_i (n := 1) (As := [.int l1]) hd q hq hk_l0 (by decide) rfl rfl w1 kw6_204 ks4_10 kw1_14 kw6_205 (by decide +kernel) rfl hr (by decide) hst _ rfl (cX12_readDeed_ hk_l0 h) k
def lbX12_readPlan_2 (Q : Int32 → Mem → Prop) (l0 : Nat) (B2 : Int32 → Mem → Prop) (l1 : Int32) (M : Mem) : Prop :=
  FX12_isWord (fun (r1 : Bool) => ((r1 = false → ((¬ (M l0 14) = 0 → FX12_errs (fun (r3 : Int32) (M2 : Mem) => Q r3 M2) l0 1 M) ∧ ((M l0 14) = 0 → Q l1 M))) ∧ (r1 = true → ((¬ l1 = 16 → FX12_readDeed (fun (r5 : Int32) (M4 : Mem) => ((¬ r5 = (-1) → B2 (l1 + 1) M4) ∧ (r5 = (-1) → Q (-1) M4))) l0 (64 + (4 * l1)) M) ∧ (l1 = 16 → FX12_errs (fun (r7 : Int32) (M6 : Mem) => Q r7 M6) l0 3 M))))) l0 17 M
def NX12_readPlan_2 (Q : Int32 → Mem → Prop) (l0 : Nat) (l1 : Int32) (M : Mem) : Prop := xlp (fun (B : Int32 × Mem → Prop) a => lbX12_readPlan_2 Q l0 (fun l1 M => B (l1, M)) a.1 a.2) (l1, M)
theorem nX12_readPlan_2 {Q : Int32 → Mem → Prop} {l0 : Nat} {l1 : Int32} {M : Mem} (hk_l0 : SHk l0 = 12) (h : NX12_readPlan_2 Q l0 l1 M) : xX RX12 cX12_readPlan 2 (some .int) 7 2 [(0, .ref l0), (1, .int l1)] [] M (xQi Q) := by
  obtain ⟨n, h⟩ := h
  have hB2 : ∀ (n : Nat) (l1 : Int32) (M : Mem), xlpn (fun (B : Int32 × Mem → Prop) a => lbX12_readPlan_2 Q l0 (fun l1 M => B (l1, M)) a.1 a.2) n (l1, M) → xX RX12 cX12_readPlan 2 (some .int) 7 2 [(0, .ref l0), (1, .int l1)] [] M (xQi Q) := by
    intro n
    induction n with
    | zero => intro l1 M h; exact False.elim h
    | succ n ih =>
      intro l1 M h
      have hB2 := ih
      have h : lbX12_readPlan_2 Q l0 (fun l1 M => xlpn (fun (B : Int32 × Mem → Prop) a => lbX12_readPlan_2 Q l0 (fun l1 M => B (l1, M)) a.1 a.2) n (l1, M)) l1 M := h
      unfold lbX12_readPlan_2 at h
      refine x_aload_n dX12_readPlan_2 rfl 3 rfl ?_
      refine x_bipush dX12_readPlan_3 kb_17 5 rfl ?_
      refine kX12_isWord dX12_readPlan_5 8 rfl hk_l0 kw6_174 (Nat.le_of_ble_eq_true rfl) (Nat.le_of_ble_eq_true rfl) h (fun r1 h => ?_)
      refine x_if_eq_b dX12_readPlan_8 46 11 rfl rfl (fun hc => ?_) (fun hc => ?_)
      · have h := h.1 hc
        refine x_aload_n dX12_readPlan_46 rfl 47 rfl ?_
        refine gf12_14 dX12_readPlan_47 50 rfl hk_l0 kw5_173 ?_
        refine x_if_ne dX12_readPlan_50 57 53 rfl rfl (fun hc => ?_) (fun hc => ?_)
        · have h := h.1 hc
          refine x_aload_n dX12_readPlan_57 rfl 58 rfl ?_
          refine x_iconst dX12_readPlan_58 kc_1 59 rfl ?_
          refine kX12_errs dX12_readPlan_59 62 rfl hk_l0 kw6_178 (Nat.le_of_ble_eq_true rfl) (Nat.le_of_ble_eq_true rfl) h (fun r3 M2 h => ?_)
          exact x_iret dX12_readPlan_62 h
        · have h := h.2 hc
          refine x_iload_n dX12_readPlan_53 rfl 54 rfl ?_
          refine x_goto dX12_readPlan_54 62 rfl ?_
          exact x_iret dX12_readPlan_62 h
      · have h := h.2 hc
        refine x_iload_n dX12_readPlan_11 rfl 12 rfl ?_
        refine x_bipush dX12_readPlan_12 kb_16 14 rfl ?_
        refine x_icmp_ne dX12_readPlan_14 23 17 rfl rfl (fun hc => ?_) (fun hc => ?_)
        · have h := h.1 hc
          refine x_aload_n dX12_readPlan_23 rfl 24 rfl ?_
          refine x_bipush dX12_readPlan_24 kb_64 26 rfl ?_
          refine x_iconst dX12_readPlan_26 kc_4 27 rfl ?_
          refine x_iload_n dX12_readPlan_27 rfl 28 rfl ?_
          refine x_imul dX12_readPlan_28 29 rfl ?_
          refine x_iadd dX12_readPlan_29 30 rfl ?_
          refine kX12_readDeed dX12_readPlan_30 33 rfl hk_l0 kw6_202 (Nat.le_of_ble_eq_true rfl) (Nat.le_of_ble_eq_true rfl) h (fun r5 M4 h => ?_)
          refine x_iconst dX12_readPlan_33 kc_m1 34 rfl ?_
          refine x_icmp_ne dX12_readPlan_34 39 37 rfl rfl (fun hc => ?_) (fun hc => ?_)
          · have h := h.1 hc
            refine x_iload_n dX12_readPlan_39 rfl 40 rfl ?_
            refine x_iconst dX12_readPlan_40 kc_1 41 rfl ?_
            refine x_iadd dX12_readPlan_41 42 rfl ?_
            refine x_istore_n dX12_readPlan_42 (Nat.le_of_ble_eq_true rfl) [(0, .ref l0), (1, .int (l1 + 1))] rfl 43 rfl ?_
            refine x_goto dX12_readPlan_43 2 rfl ?_
            exact hB2 _ _ h
          · have h := h.2 hc
            refine x_iconst dX12_readPlan_37 kc_m1 38 rfl ?_
            exact x_iret dX12_readPlan_38 h
        · have h := h.2 hc
          refine x_aload_n dX12_readPlan_17 rfl 18 rfl ?_
          refine x_iconst dX12_readPlan_18 kc_3 19 rfl ?_
          refine kX12_errs dX12_readPlan_19 22 rfl hk_l0 kw6_178 (Nat.le_of_ble_eq_true rfl) (Nat.le_of_ble_eq_true rfl) h (fun r7 M6 h => ?_)
          exact x_iret dX12_readPlan_22 h
  exact hB2 n l1 M h
def FX12_readPlan (Q : Int32 → Mem → Prop) (l0 : Nat) (M : Mem) : Prop :=
  NX12_readPlan_2 Q l0 0 M
theorem eX12_readPlan {Q : Int32 → Mem → Prop} {l0 : Nat} {M : Mem} (hk_l0 : SHk l0 = 12) (h : FX12_readPlan Q l0 M) : xX RX12 cX12_readPlan 2 (some .int) 7 0 [(0, .ref l0)] [] M (xQi Q) := by
  unfold FX12_readPlan at h
  refine x_iconst dX12_readPlan_0 kc_0 1 rfl ?_
  refine x_istore_n dX12_readPlan_1 (Nat.le_of_ble_eq_true rfl) [(0, .ref l0), (1, .int 0)] rfl 2 rfl ?_
  exact nX12_readPlan_2 hk_l0 h
theorem cX12_readPlan_ {Q : Int32 → Mem → Prop} {l0 : Nat} {M : Mem} (hk_l0 : SHk l0 = 12) (h : FX12_readPlan Q l0 M) : xM yX12_readPlan cX12_readPlan 2 (some .int) 7 [.ref l0] M (xQi Q) := xM_of (by decide +kernel) (Nat.le_of_ble_eq_true rfl) (eX12_readPlan hk_l0 h)
theorem kX12_readPlan {own : String} {cc : ByteArray} {nL : Nat} {rt : Option FieldType} {d pc ix : Nat} {L : List (Nat × Value)} {st : List Value} {M : Mem} {Rt : xGt → Array Value → State → Outcome → State → Prop} {Q : Int32 → Mem → Prop} {l0 : Nat} (hd : decode cc pc = .ok (.invokevirtual ix, 3)) (q : Nat) (hq : pc + 3 = q) (hk_l0 : SHk l0 = 12) (w1 : Cond.methodLink own ix yX12_readPlan ∈ xTs) (hr : 7 < d) (hst : (st.map fun v => v.category).sum ≤ 8) (h : FX12_readPlan Q l0 M) (k : ∀ (r : Int32) (N : Mem), Q r N → xX own cc nL rt d q L (.int r :: st) N Rt) : xX own cc nL rt d pc L (.ref l0 :: st) M Rt :=
  x_callV_i (n := 0) (As := []) hd q hq hk_l0 (by decide) rfl rfl w1 kw6_200 ks4_9 kw1_14 kw6_201 (by decide +kernel) rfl hr (by decide) hst _ rfl (cX12_readPlan_ hk_l0 h) k
def lbX12_readTenet_4 (Q : Int32 → Mem → Prop) (l0 : Nat) (l1 : Int32) (B4 : Int32 → Int32 → Mem → Prop) (l2 : Int32) (l3 : Int32) (M : Mem) : Prop :=
  ((l3 = 0 → vp_in l1 64 ∧ ∀ M1 : Mem, M1 = xu M (l0 + 18) (ix l1) l2 → FX12_readTold (fun (r3 : Int32) (M2 : Mem) => vp_in (l1 + 1) 64 ∧ ∀ M4 : Mem, M4 = xu M2 (l0 + 18) (ix (l1 + 1)) r3 → vp_in (l1 + 1) 64 ∧ ((¬ (M4 (l0 + 18) (ix (l1 + 1))) = (-1) → FX12_readMark (fun (r6 : Int32) (M5 : Mem) => Q r6 M5) l0 59 M4) ∧ ((M4 (l0 + 18) (ix (l1 + 1))) = (-1) → Q (-1) M4))) l0 23 0 15 M1) ∧ (¬ l3 = 0 → FX12_readNumber (fun (r8 : Int32) (M7 : Mem) => ((¬ r8 = (-1) → ∀ y9 : Int32, y9 = l2 ||| ((1 : Int32) <<< (r8 &&& 31)) → FX12_isWord (fun (r10 : Bool) => (((bI r10) = 0 → B4 y9 (bI r10) M7) ∧ (¬ (bI r10) = 0 → FX12_reads (fun (M11 : Mem) => B4 y9 (bI r10) M11) l0 M7))) l0 5 M7) ∧ (r8 = (-1) → Q (-1) M7))) l0 0 15 M))
def NX12_readTenet_4 (Q : Int32 → Mem → Prop) (l0 : Nat) (l1 : Int32) (l2 : Int32) (l3 : Int32) (M : Mem) : Prop := xlp (fun (B : Int32 × Int32 × Mem → Prop) a => lbX12_readTenet_4 Q l0 l1 (fun l2 l3 M => B (l2, l3, M)) a.1 a.2.1 a.2.2) (l2, l3, M)
theorem nX12_readTenet_4 {Q : Int32 → Mem → Prop} {l0 : Nat} {l1 : Int32} {l2 : Int32} {l3 : Int32} {M : Mem} (hk_l0 : SHk l0 = 12) (h : NX12_readTenet_4 Q l0 l1 l2 l3 M) : xX RX12 cX12_readTenet 5 (some .int) 6 4 [(0, .ref l0), (1, .int l1), (2, .int l2), (3, .int l3)] [] M (xQi Q) := by
  obtain ⟨n, h⟩ := h
  have hB4 : ∀ (n : Nat) (l2 : Int32) (l3 : Int32) (M : Mem), xlpn (fun (B : Int32 × Int32 × Mem → Prop) a => lbX12_readTenet_4 Q l0 l1 (fun l2 l3 M => B (l2, l3, M)) a.1 a.2.1 a.2.2) n (l2, l3, M) → xX RX12 cX12_readTenet 5 (some .int) 6 4 [(0, .ref l0), (1, .int l1), (2, .int l2), (3, .int l3)] [] M (xQi Q) := by
    intro n
    induction n with
    | zero => intro l2 l3 M h; exact False.elim h
    | succ n ih =>
      intro l2 l3 M h
      have hB4 := ih
      have h : lbX12_readTenet_4 Q l0 l1 (fun l2 l3 M => xlpn (fun (B : Int32 × Int32 × Mem → Prop) a => lbX12_readTenet_4 Q l0 l1 (fun l2 l3 M => B (l2, l3, M)) a.1 a.2.1 a.2.2) n (l2, l3, M)) l2 l3 M := h
      unfold lbX12_readTenet_4 at h
      refine x_iload_n dX12_readTenet_4 rfl 5 rfl ?_
      refine x_if_eq dX12_readTenet_5 49 8 rfl rfl (fun hc => ?_) (fun hc => ?_)
      · have h := h.1 hc
        refine x_aload_n dX12_readTenet_49 rfl 50 rfl ?_
        refine gf12_38 dX12_readTenet_50 53 rfl hk_l0 kw5_197 ?_
        refine x_iload_n dX12_readTenet_53 rfl 54 rfl ?_
        refine x_iload_n dX12_readTenet_54 rfl 55 rfl ?_
        obtain ⟨hin, h⟩ := h
        refine x_iastore dX12_readTenet_55 (ly12_38 hk_l0) hin 56 rfl (x_mem (fun M1 hM1 => ?_))
        have h := h M1 hM1
        refine x_aload_n dX12_readTenet_56 rfl 57 rfl ?_
        refine gf12_38 dX12_readTenet_57 60 rfl hk_l0 kw5_197 ?_
        refine x_iload_n dX12_readTenet_60 rfl 61 rfl ?_
        refine x_iconst dX12_readTenet_61 kc_1 62 rfl ?_
        refine x_iadd dX12_readTenet_62 63 rfl ?_
        refine x_aload_n dX12_readTenet_63 rfl 64 rfl ?_
        refine x_bipush dX12_readTenet_64 kb_23 66 rfl ?_
        refine x_iconst dX12_readTenet_66 kc_0 67 rfl ?_
        refine x_bipush dX12_readTenet_67 kb_15 69 rfl ?_
        refine kX12_readTold dX12_readTenet_69 72 rfl hk_l0 kw6_182 (Nat.le_of_ble_eq_true rfl) (Nat.le_of_ble_eq_true rfl) h (fun r3 M2 h => ?_)
        obtain ⟨hin, h⟩ := h
        refine x_iastore dX12_readTenet_72 (ly12_38 hk_l0) hin 73 rfl (x_mem (fun M4 hM4 => ?_))
        have h := h M4 hM4
        refine x_aload_n dX12_readTenet_73 rfl 74 rfl ?_
        refine gf12_38 dX12_readTenet_74 77 rfl hk_l0 kw5_197 ?_
        refine x_iload_n dX12_readTenet_77 rfl 78 rfl ?_
        refine x_iconst dX12_readTenet_78 kc_1 79 rfl ?_
        refine x_iadd dX12_readTenet_79 80 rfl ?_
        obtain ⟨hin, h⟩ := h
        refine x_iaload dX12_readTenet_80 (ly12_38 hk_l0) hin 81 rfl ?_
        refine x_iconst dX12_readTenet_81 kc_m1 82 rfl ?_
        refine x_icmp_ne dX12_readTenet_82 89 85 rfl rfl (fun hc => ?_) (fun hc => ?_)
        · have h := h.1 hc
          refine x_aload_n dX12_readTenet_89 rfl 90 rfl ?_
          refine x_bipush dX12_readTenet_90 kb_59 92 rfl ?_
          refine kX12_readMark dX12_readTenet_92 95 rfl hk_l0 kw6_190 (Nat.le_of_ble_eq_true rfl) (Nat.le_of_ble_eq_true rfl) h (fun r6 M5 h => ?_)
          exact x_iret dX12_readTenet_95 h
        · have h := h.2 hc
          refine x_iconst dX12_readTenet_85 kc_m1 86 rfl ?_
          refine x_goto dX12_readTenet_86 95 rfl ?_
          exact x_iret dX12_readTenet_95 h
      · have h := h.2 hc
        refine x_aload_n dX12_readTenet_8 rfl 9 rfl ?_
        refine x_iconst dX12_readTenet_9 kc_0 10 rfl ?_
        refine x_bipush dX12_readTenet_10 kb_15 12 rfl ?_
        refine kX12_readNumber dX12_readTenet_12 15 rfl hk_l0 kw6_186 (Nat.le_of_ble_eq_true rfl) (Nat.le_of_ble_eq_true rfl) h (fun r8 M7 h => ?_)
        refine x_istore dX12_readTenet_15 (Nat.le_of_ble_eq_true rfl) [(0, .ref l0), (1, .int l1), (2, .int l2), (3, .int l3), (4, .int r8)] rfl 17 rfl ?_
        refine x_iload dX12_readTenet_17 rfl 19 rfl ?_
        refine x_iconst dX12_readTenet_19 kc_m1 20 rfl ?_
        refine x_icmp_ne dX12_readTenet_20 25 23 rfl rfl (fun hc => ?_) (fun hc => ?_)
        · have h := h.1 hc
          refine x_iload_n dX12_readTenet_25 rfl 26 rfl ?_
          refine x_iconst dX12_readTenet_26 kc_1 27 rfl ?_
          refine x_iload dX12_readTenet_27 rfl 29 rfl ?_
          refine x_ishl dX12_readTenet_29 30 rfl ?_
          refine x_ior dX12_readTenet_30 31 rfl ?_
          refine x_top (fun y9 hy9 => ?_)
          have h := h y9 hy9
          refine x_istore_n dX12_readTenet_31 (Nat.le_of_ble_eq_true rfl) [(0, .ref l0), (1, .int l1), (2, .int y9), (3, .int l3), (4, .int r8)] rfl 32 rfl ?_
          refine x_aload_n dX12_readTenet_32 rfl 33 rfl ?_
          refine x_iconst dX12_readTenet_33 kc_5 34 rfl ?_
          refine kX12_isWord dX12_readTenet_34 37 rfl hk_l0 kw6_174 (Nat.le_of_ble_eq_true rfl) (Nat.le_of_ble_eq_true rfl) h (fun r10 h => ?_)
          refine x_istore_n dX12_readTenet_37 (Nat.le_of_ble_eq_true rfl) [(0, .ref l0), (1, .int l1), (2, .int y9), (3, .int (bI r10)), (4, .int r8)] rfl 38 rfl ?_
          refine x_iload_n dX12_readTenet_38 rfl 39 rfl ?_
          refine x_if_eq dX12_readTenet_39 46 42 rfl rfl (fun hc => ?_) (fun hc => ?_)
          · have h := h.1 hc
            refine x_goto dX12_readTenet_46 4 rfl ?_
            refine x_weak [(0, .ref l0), (1, .int l1), (2, .int y9), (3, .int (bI r10))] [0, 1, 2, 3] rfl ?_
            exact hB4 _ _ _ h
          · have h := h.2 hc
            refine x_aload_n dX12_readTenet_42 rfl 43 rfl ?_
            refine kX12_reads dX12_readTenet_43 46 rfl hk_l0 kw6_146 (Nat.le_of_ble_eq_true rfl) (Nat.le_of_ble_eq_true rfl) h (fun M11 h => ?_)
            refine x_goto dX12_readTenet_46 4 rfl ?_
            refine x_weak [(0, .ref l0), (1, .int l1), (2, .int y9), (3, .int (bI r10))] [0, 1, 2, 3] rfl ?_
            exact hB4 _ _ _ h
        · have h := h.2 hc
          refine x_iconst dX12_readTenet_23 kc_m1 24 rfl ?_
          exact x_iret dX12_readTenet_24 h
  exact hB4 n l2 l3 M h
def FX12_readTenet (Q : Int32 → Mem → Prop) (l0 : Nat) (l1 : Int32) (M : Mem) : Prop :=
  NX12_readTenet_4 Q l0 l1 0 1 M
theorem eX12_readTenet {Q : Int32 → Mem → Prop} {l0 : Nat} {l1 : Int32} {M : Mem} (hk_l0 : SHk l0 = 12) (h : FX12_readTenet Q l0 l1 M) : xX RX12 cX12_readTenet 5 (some .int) 6 0 [(0, .ref l0), (1, .int l1)] [] M (xQi Q) := by
  unfold FX12_readTenet at h
  refine x_iconst dX12_readTenet_0 kc_0 1 rfl ?_
  refine x_istore_n dX12_readTenet_1 (Nat.le_of_ble_eq_true rfl) [(0, .ref l0), (1, .int l1), (2, .int 0)] rfl 2 rfl ?_
  refine x_iconst dX12_readTenet_2 kc_1 3 rfl ?_
  refine x_istore_n dX12_readTenet_3 (Nat.le_of_ble_eq_true rfl) [(0, .ref l0), (1, .int l1), (2, .int 0), (3, .int 1)] rfl 4 rfl ?_
  exact nX12_readTenet_4 hk_l0 h
theorem cX12_readTenet_ {Q : Int32 → Mem → Prop} {l0 : Nat} {l1 : Int32} {M : Mem} (hk_l0 : SHk l0 = 12) (h : FX12_readTenet Q l0 l1 M) : xM yX12_readTenet cX12_readTenet 5 (some .int) 6 [.ref l0, .int l1] M (xQi Q) := xM_of (by decide +kernel) (Nat.le_of_ble_eq_true rfl) (eX12_readTenet hk_l0 h)
theorem kX12_readTenet {own : String} {cc : ByteArray} {nL : Nat} {rt : Option FieldType} {d pc ix : Nat} {L : List (Nat × Value)} {st : List Value} {M : Mem} {Rt : xGt → Array Value → State → Outcome → State → Prop} {Q : Int32 → Mem → Prop} {l0 : Nat} {l1 : Int32} (hd : decode cc pc = .ok (.invokevirtual ix, 3)) (q : Nat) (hq : pc + 3 = q) (hk_l0 : SHk l0 = 12) (w1 : Cond.methodLink own ix yX12_readTenet ∈ xTs) (hr : 6 < d) (hst : (st.map fun v => v.category).sum ≤ 8) (h : FX12_readTenet Q l0 l1 M) (k : ∀ (r : Int32) (N : Mem), Q r N → xX own cc nL rt d q L (.int r :: st) N Rt) : xX own cc nL rt d pc L (.int l1 :: .ref l0 :: st) M Rt :=
  x_callV_i (n := 1) (As := [.int l1]) hd q hq hk_l0 (by decide) rfl rfl w1 kw6_216 ks4_13 kw1_14 kw6_217 (by decide +kernel) rfl hr (by decide) hst _ rfl (cX12_readTenet_ hk_l0 h) k
