def NX0_passDay_30 (Q : Int32 → Mem → Prop) (l0 : Nat) (l1 : Nat) (l2 : Int32) (M : Mem) : Prop :=
  FX0_lowerBasket (fun (M1 : Mem) => FX9_hungerOnGround (fun (M2 : Mem) => FX0_lowerAdvice (fun (M3 : Mem) => FX0_leanAll (fun (M4 : Mem) => FX0_letDie (fun (r6 : Int32) (M5 : Mem) => FX9_climb (fun (M7 : Mem) => ∀ M8 : Mem, M8 = xu M7 l1 15 ((M7 l1 15) + 1) → Q r6 M8) l1 M5) l0 l1 l2 M4) l0 l1 M3) l0 l1 M2) l1 M1) l0 l1 M
theorem nX0_passDay_30 {Q : Int32 → Mem → Prop} {l0 : Nat} {l1 : Nat} {l2 : Int32} {M : Mem} (hk_l0 : SHk l0 = 0) (hk_l1 : SHk l1 = 9) (h : NX0_passDay_30 Q l0 l1 l2 M) : xX RX0 cX0_passDay 5 (some .int) 7 30 [(0, .ref l0), (1, .ref l1), (2, .int l2)] [] M (xQi Q) := by
  unfold NX0_passDay_30 at h
  refine x_aload_n dX0_passDay_30 rfl 31 rfl ?_
  refine x_aload_n dX0_passDay_31 rfl 32 rfl ?_
  refine kX0_lowerBasket dX0_passDay_32 35 rfl hk_l0 hk_l1 kw3_79 (Nat.le_of_ble_eq_true rfl) (Nat.le_of_ble_eq_true rfl) h (fun M1 h => ?_)
  refine x_aload_n dX0_passDay_35 rfl 36 rfl ?_
  refine kX9_hungerOnGround dX0_passDay_36 39 rfl hk_l1 kw3_128 (Nat.le_of_ble_eq_true rfl) (Nat.le_of_ble_eq_true rfl) h (fun M2 h => ?_)
  refine x_aload_n dX0_passDay_39 rfl 40 rfl ?_
  refine x_aload_n dX0_passDay_40 rfl 41 rfl ?_
  refine kX0_lowerAdvice dX0_passDay_41 44 rfl hk_l0 hk_l1 kw3_132 (Nat.le_of_ble_eq_true rfl) (Nat.le_of_ble_eq_true rfl) h (fun M3 h => ?_)
  refine x_aload_n dX0_passDay_44 rfl 45 rfl ?_
  refine x_aload_n dX0_passDay_45 rfl 46 rfl ?_
  refine kX0_leanAll dX0_passDay_46 49 rfl hk_l0 hk_l1 kw3_143 (Nat.le_of_ble_eq_true rfl) (Nat.le_of_ble_eq_true rfl) h (fun M4 h => ?_)
  refine x_aload_n dX0_passDay_49 rfl 50 rfl ?_
  refine x_aload_n dX0_passDay_50 rfl 51 rfl ?_
  refine x_iload_n dX0_passDay_51 rfl 52 rfl ?_
  refine kX0_letDie dX0_passDay_52 55 rfl hk_l0 hk_l1 kw3_148 (Nat.le_of_ble_eq_true rfl) (Nat.le_of_ble_eq_true rfl) h (fun r6 M5 h => ?_)
  refine x_istore dX0_passDay_55 (Nat.le_of_ble_eq_true rfl) [(0, .ref l0), (1, .ref l1), (2, .int l2), (4, .int r6)] rfl 57 rfl ?_
  refine x_aload_n dX0_passDay_57 rfl 58 rfl ?_
  refine kX9_climb dX0_passDay_58 61 rfl hk_l1 kw3_168 (Nat.le_of_ble_eq_true rfl) (Nat.le_of_ble_eq_true rfl) h (fun M7 h => ?_)
  refine x_aload_n dX0_passDay_61 rfl 62 rfl ?_
  refine x_dup dX0_passDay_62 rfl 63 rfl ?_
  refine gf9_15 dX0_passDay_63 66 rfl hk_l1 kw1_87 ?_
  refine x_iconst dX0_passDay_66 kc_1 67 rfl ?_
  refine x_iadd dX0_passDay_67 68 rfl ?_
  refine pf9_15 dX0_passDay_68 71 rfl hk_l1 kw1_87 (x_mem (fun M8 hM8 => ?_))
  have h := h M8 hM8
  refine x_iload dX0_passDay_71 rfl 73 rfl ?_
  exact x_iret dX0_passDay_73 h
def FX0_passDay (Q : Int32 → Mem → Prop) (l0 : Nat) (l1 : Nat) (l2 : Int32) (M : Mem) : Prop :=
  FX4_carryOut (fun (M9 : Mem) => FX6_weatherOn (fun (r10 : Int32) => ((r10 = (-1) → NX0_passDay_30 Q l0 l1 l2 M9) ∧ (¬ r10 = (-1) → ∀ M11 : Mem, M11 = xu M9 l1 14 r10 → NX0_passDay_30 Q l0 l1 l2 M11))) (l0 + 18) (M9 l1 15) M9) (l0 + 21) l1 M
theorem eX0_passDay {Q : Int32 → Mem → Prop} {l0 : Nat} {l1 : Nat} {l2 : Int32} {M : Mem} (hk_l0 : SHk l0 = 0) (hk_l1 : SHk l1 = 9) (h : FX0_passDay Q l0 l1 l2 M) : xX RX0 cX0_passDay 5 (some .int) 7 0 [(0, .ref l0), (1, .ref l1), (2, .int l2)] [] M (xQi Q) := by
  unfold FX0_passDay at h
  refine x_aload_n dX0_passDay_0 rfl 1 rfl ?_
  refine gf0_3 dX0_passDay_1 4 rfl hk_l0 kw2_15 ?_
  refine x_aload_n dX0_passDay_4 rfl 5 rfl ?_
  refine kX4_carryOut dX0_passDay_5 8 rfl (ly0_3 hk_l0).1 hk_l1 kw3_56 (Nat.le_of_ble_eq_true rfl) (Nat.le_of_ble_eq_true rfl) h (fun M9 h => ?_)
  refine x_aload_n dX0_passDay_8 rfl 9 rfl ?_
  refine gf0_2 dX0_passDay_9 12 rfl hk_l0 kw2_13 ?_
  refine x_aload_n dX0_passDay_12 rfl 13 rfl ?_
  refine gf9_15 dX0_passDay_13 16 rfl hk_l1 kw1_87 ?_
  refine kX6_weatherOn dX0_passDay_16 19 rfl (ly0_2 hk_l0).1 kw3_75 (Nat.le_of_ble_eq_true rfl) (Nat.le_of_ble_eq_true rfl) h (fun r10 h => ?_)
  refine x_istore_n dX0_passDay_19 (Nat.le_of_ble_eq_true rfl) [(0, .ref l0), (1, .ref l1), (2, .int l2), (3, .int r10)] rfl 20 rfl ?_
  refine x_iload_n dX0_passDay_20 rfl 21 rfl ?_
  refine x_iconst dX0_passDay_21 kc_m1 22 rfl ?_
  refine x_icmp_eq dX0_passDay_22 30 25 rfl rfl (fun hc => ?_) (fun hc => ?_)
  · have h := h.1 hc
    refine x_weak [(0, .ref l0), (1, .ref l1), (2, .int l2)] [0, 1, 2] rfl ?_
    exact nX0_passDay_30 hk_l0 hk_l1 h
  · have h := h.2 hc
    refine x_aload_n dX0_passDay_25 rfl 26 rfl ?_
    refine x_iload_n dX0_passDay_26 rfl 27 rfl ?_
    refine pf9_14 dX0_passDay_27 30 rfl hk_l1 kw1_83 (x_mem (fun M11 hM11 => ?_))
    have h := h M11 hM11
    refine x_weak [(0, .ref l0), (1, .ref l1), (2, .int l2)] [0, 1, 2] rfl ?_
    exact nX0_passDay_30 hk_l0 hk_l1 h
theorem cX0_passDay_ {Q : Int32 → Mem → Prop} {l0 : Nat} {l1 : Nat} {l2 : Int32} {M : Mem} (hk_l0 : SHk l0 = 0) (hk_l1 : SHk l1 = 9) (h : FX0_passDay Q l0 l1 l2 M) : xM yX0_passDay cX0_passDay 5 (some .int) 7 [.ref l0, .ref l1, .int l2] M (xQi Q) := xM_of (by decide +kernel) (Nat.le_of_ble_eq_true rfl) (eX0_passDay hk_l0 hk_l1 h)
theorem kX0_passDay {own : String} {cc : ByteArray} {nL : Nat} {rt : Option FieldType} {d pc ix : Nat} {L : List (Nat × Value)} {st : List Value} {M : Mem} {Rt : xGt → Array Value → State → Outcome → State → Prop} {Q : Int32 → Mem → Prop} {l0 : Nat} {l1 : Nat} {l2 : Int32} (hd : decode cc pc = .ok (.invokevirtual ix, 3)) (q : Nat) (hq : pc + 3 = q) (hk_l0 : SHk l0 = 0) (hk_l1 : SHk l1 = 9) (w1 : Cond.methodLink own ix yX0_passDay ∈ xTs) (hr : 7 < d) (hst : (st.map fun v => v.category).sum ≤ 8) (h : FX0_passDay Q l0 l1 l2 M) (k : ∀ (r : Int32) (N : Mem), Q r N → xX own cc nL rt d q L (.int r :: st) N Rt) : xX own cc nL rt d pc L (.int l2 :: .ref l1 :: .ref l0 :: st) M Rt :=
  x_callV_i (n := 2) (As := [.ref l1, .int l2]) hd q hq hk_l0 (by decide) rfl rfl w1 kw3_53 kw3_54 kw1_2 kw3_55 (by decide +kernel) rfl hr (by decide) hst _ rfl (cX0_passDay_ hk_l0 hk_l1 h) k
def lbJ7_fill_53178_5 (Q : Mem → Prop) (l0 : Nat) (l1 : Int32) (l3 : Int32) (B5 : Int32 → Mem → Prop) (l2 : Int32) (M : Mem) : Prop :=
  ((l3 ≤ l2 → Q M) ∧ (¬ l3 ≤ l2 → vp_in l2 (SHn l0) ∧ ∀ M1 : Mem, M1 = xu M l0 (ix l2) l1 → B5 (l2 + 1) M1))
def NJ7_fill_53178_5 (Q : Mem → Prop) (l0 : Nat) (l1 : Int32) (l2 : Int32) (l3 : Int32) (M : Mem) : Prop := xlp (fun (B : Int32 × Mem → Prop) a => lbJ7_fill_53178_5 Q l0 l1 l3 (fun l2 M => B (l2, M)) a.1 a.2) (l2, M)
theorem nJ7_fill_53178_5 {Q : Mem → Prop} {l0 : Nat} {l1 : Int32} {l2 : Int32} {l3 : Int32} {M : Mem} (hk_l0 : SHk l0 = 13) (h : NJ7_fill_53178_5 Q l0 l1 l2 l3 M) : xX RJ7 cJ7_fill_53178 4 none 1 5 [(0, .ref l0), (1, .int l1), (2, .int l2), (3, .int l3)] [] M (xQv Q) := by
  obtain ⟨n, h⟩ := h
  have hB5 : ∀ (n : Nat) (l2 : Int32) (M : Mem), xlpn (fun (B : Int32 × Mem → Prop) a => lbJ7_fill_53178_5 Q l0 l1 l3 (fun l2 M => B (l2, M)) a.1 a.2) n (l2, M) → xX RJ7 cJ7_fill_53178 4 none 1 5 [(0, .ref l0), (1, .int l1), (2, .int l2), (3, .int l3)] [] M (xQv Q) := by
    intro n
    induction n with
    | zero => intro l2 M h; exact False.elim h
    | succ n ih =>
      intro l2 M h
      have hB5 := ih
      have h : lbJ7_fill_53178_5 Q l0 l1 l3 (fun l2 M => xlpn (fun (B : Int32 × Mem → Prop) a => lbJ7_fill_53178_5 Q l0 l1 l3 (fun l2 M => B (l2, M)) a.1 a.2) n (l2, M)) l2 M := h
      unfold lbJ7_fill_53178_5 at h
      refine x_iload_n dJ7_fill_53178_5 rfl 6 rfl ?_
      refine x_iload_n dJ7_fill_53178_6 rfl 7 rfl ?_
      refine x_icmp_ge dJ7_fill_53178_7 20 10 rfl rfl (fun hc => ?_) (fun hc => ?_)
      · have h := h.1 hc
        exact x_vret dJ7_fill_53178_20 h
      · have h := h.2 hc
        refine x_aload_n dJ7_fill_53178_10 rfl 11 rfl ?_
        refine x_iload_n dJ7_fill_53178_11 rfl 12 rfl ?_
        refine x_iload_n dJ7_fill_53178_12 rfl 13 rfl ?_
        obtain ⟨hin, h⟩ := h
        refine x_iastore dJ7_fill_53178_13 ⟨hk_l0, rfl⟩ hin 14 rfl (x_mem (fun M1 hM1 => ?_))
        have h := h M1 hM1
        refine x_iinc dJ7_fill_53178_14 rfl (congrArg (l2 + ·) kc_1) (Nat.le_of_ble_eq_true rfl) [(0, .ref l0), (1, .int l1), (2, .int (l2 + 1)), (3, .int l3)] rfl 17 rfl ?_
        refine x_goto dJ7_fill_53178_17 5 rfl ?_
        exact hB5 _ _ h
  exact hB5 n l2 M h
def FJ7_fill_53178 (Q : Mem → Prop) (l0 : Nat) (l1 : Int32) (M : Mem) : Prop :=
  ∀ y2 : Int32, y2 = Int32.ofNat (SHn l0) → NJ7_fill_53178_5 Q l0 l1 0 y2 M
theorem eJ7_fill_53178 {Q : Mem → Prop} {l0 : Nat} {l1 : Int32} {M : Mem} (hk_l0 : SHk l0 = 13) (h : FJ7_fill_53178 Q l0 l1 M) : xX RJ7 cJ7_fill_53178 4 none 1 0 [(0, .ref l0), (1, .int l1)] [] M (xQv Q) := by
  unfold FJ7_fill_53178 at h
  refine x_iconst dJ7_fill_53178_0 kc_0 1 rfl ?_
  refine x_istore_n dJ7_fill_53178_1 (Nat.le_of_ble_eq_true rfl) [(0, .ref l0), (1, .int l1), (2, .int 0)] rfl 2 rfl ?_
  refine x_aload_n dJ7_fill_53178_2 rfl 3 rfl ?_
  refine x_alen (n := Int32.ofNat (SHn l0)) dJ7_fill_53178_3 ⟨hk_l0, rfl⟩ rfl 4 rfl ?_
  refine x_top (fun y2 hy2 => ?_)
  have h := h y2 hy2
  refine x_istore_n dJ7_fill_53178_4 (Nat.le_of_ble_eq_true rfl) [(0, .ref l0), (1, .int l1), (2, .int 0), (3, .int y2)] rfl 5 rfl ?_
  exact nJ7_fill_53178_5 hk_l0 h
theorem cJ7_fill_53178_ {Q : Mem → Prop} {l0 : Nat} {l1 : Int32} {M : Mem} (hk_l0 : SHk l0 = 13) (h : FJ7_fill_53178 Q l0 l1 M) : xM yJ7_fill_53178 cJ7_fill_53178 4 none 1 [.ref l0, .int l1] M (xQv Q) := xM_ofF (by decide +kernel) (Nat.le_of_ble_eq_true rfl) (eJ7_fill_53178 hk_l0 h)
theorem kJ7_fill_53178 {own : String} {cc : ByteArray} {nL : Nat} {rt : Option FieldType} {d pc ix : Nat} {L : List (Nat × Value)} {st : List Value} {M : Mem} {Rt : xGt → Array Value → State → Outcome → State → Prop} {Q : Mem → Prop} {l0 : Nat} {l1 : Int32} (hd : decode cc pc = .ok (.invokestatic ix, 3)) (q : Nat) (hq : pc + 3 = q) (hk_l0 : SHk l0 = 13) (w1 : Cond.methodLink own ix yJ7_fill_53178 ∈ xTs) (hr : 1 < d) (hst : (st.map fun v => v.category).sum ≤ 8) (h : FJ7_fill_53178 Q l0 l1 M) (k : ∀ (N : Mem), Q N → xX own cc nL rt d q L st N Rt) : xX own cc nL rt d pc L (.int l1 :: .ref l0 :: st) M Rt :=
  x_callS_v (n := 2) (As := [.ref l0, .int l1]) hd q hq w1 kw1_43 kw1_4 kw1_44 (by decide +kernel) rfl hr (by decide) hst _ rfl (cJ7_fill_53178_ hk_l0 h) k
def FJ9_abs_0f7a4 (Q : Int32 → Prop) (l0 : Int32) (M : Mem) : Prop :=
  ((0 ≤ l0 → Q l0) ∧ (¬ 0 ≤ l0 → Q (-l0)))
theorem eJ9_abs_0f7a4 {Q : Int32 → Prop} {l0 : Int32} {M : Mem} (h : FJ9_abs_0f7a4 Q l0 M) : xX RJ9 cJ9_abs_0f7a4 1 (some .int) 1 0 [(0, .int l0)] [] M (xQi (xP M Q)) := by
  unfold FJ9_abs_0f7a4 at h
  refine x_iload_n dJ9_abs_0f7a4_0 rfl 1 rfl ?_
  refine x_if_ge dJ9_abs_0f7a4_1 9 4 rfl rfl (fun hc => ?_) (fun hc => ?_)
  · have h := h.1 hc
    refine x_iload_n dJ9_abs_0f7a4_9 rfl 10 rfl ?_
    exact x_iret dJ9_abs_0f7a4_10 ⟨rfl, h⟩
  · have h := h.2 hc
    refine x_iload_n dJ9_abs_0f7a4_4 rfl 5 rfl ?_
    refine x_ineg dJ9_abs_0f7a4_5 6 rfl ?_
    refine x_goto dJ9_abs_0f7a4_6 10 rfl ?_
    exact x_iret dJ9_abs_0f7a4_10 ⟨rfl, h⟩
theorem cJ9_abs_0f7a4_ {Q : Int32 → Prop} {l0 : Int32} {M : Mem} (h : FJ9_abs_0f7a4 Q l0 M) : xM yJ9_abs_0f7a4 cJ9_abs_0f7a4 1 (some .int) 1 [.int l0] M (xQi (xP M Q)) := xM_ofF (by decide +kernel) (Nat.le_of_ble_eq_true rfl) (eJ9_abs_0f7a4 h)
theorem kJ9_abs_0f7a4 {own : String} {cc : ByteArray} {nL : Nat} {rt : Option FieldType} {d pc ix : Nat} {L : List (Nat × Value)} {st : List Value} {M : Mem} {Rt : xGt → Array Value → State → Outcome → State → Prop} {Q : Int32 → Prop} {l0 : Int32} (hd : decode cc pc = .ok (.invokestatic ix, 3)) (q : Nat) (hq : pc + 3 = q) (w1 : Cond.methodLink own ix yJ9_abs_0f7a4 ∈ xTs) (hr : 1 < d) (hst : (st.map fun v => v.category).sum ≤ 8) (h : FJ9_abs_0f7a4 Q l0 M) (k : ∀ (r : Int32), Q r → xX own cc nL rt d q L (.int r :: st) M Rt) : xX own cc nL rt d pc L (.int l0 :: st) M Rt :=
  x_callS_i (n := 1) (As := [.int l0]) hd q hq w1 kw5_1 kw1_15 kw5_2 (by decide +kernel) rfl hr (by decide) hst _ rfl (cJ9_abs_0f7a4_ h) (fun r N hN => by obtain ⟨rfl, hN⟩ := hN; exact k r hN)
def NX1_spread_78 (Q : Mem → Prop) (B5 : Int32 → Mem → Prop) (l0 : Nat) (l1 : Nat) (l2 : Int32) (l3 : Int32) (l4 : Int32) (M : Mem) : Prop :=
  vp_in l4 10 ∧ vp_in l2 10 ∧ ((¬ (M (l0 + 1) (ix l4)) = ((M (l0 + 1) (ix l2)) + 1) → B5 (l4 + 1) M) ∧ ((M (l0 + 1) (ix l4)) = ((M (l0 + 1) (ix l2)) + 1) → vp_in l4 10 ∧ vp_in l2 10 ∧ vp_in l4 10 ∧ ∀ M1 : Mem, M1 = xu M (l0 + 2) (ix l4) ((((((M (l0 + 2) (ix l4)) : Int32).toInt64) + (((M (l0 + 2) (ix l2)) : Int32).toInt64)) - ((((M (l0 + 2) (ix l4)) : Int32).toInt64) + (((M (l0 + 2) (ix l2)) : Int32).toInt64)) / 1000000007 * 1000000007).toInt32) → B5 (l4 + 1) M1))
theorem nX1_spread_78 {Q : Mem → Prop} {B5 : Int32 → Mem → Prop} {l0 : Nat} {l1 : Nat} {l2 : Int32} {l3 : Int32} {l4 : Int32} {M : Mem} (hB5 : ∀ (l4 : Int32) (M : Mem), B5 l4 M → xX RX1 cX1_spread 5 none 2 5 [(0, .ref l0), (1, .ref l1), (2, .int l2), (3, .int l3), (4, .int l4)] [] M (xQv Q)) (hk_l0 : SHk l0 = 1) (hk_l1 : SHk l1 = 9) (h : NX1_spread_78 Q B5 l0 l1 l2 l3 l4 M) : xX RX1 cX1_spread 5 none 2 78 [(0, .ref l0), (1, .ref l1), (2, .int l2), (3, .int l3), (4, .int l4)] [] M (xQv Q) := by
  unfold NX1_spread_78 at h
  refine x_aload_n dX1_spread_78 rfl 79 rfl ?_
  refine gf1_0 dX1_spread_79 82 rfl hk_l0 kw2_139 ?_
  refine x_iload dX1_spread_82 rfl 84 rfl ?_
  obtain ⟨hin, h⟩ := h
  refine x_iaload dX1_spread_84 (ly1_0 hk_l0) hin 85 rfl ?_
  refine x_aload_n dX1_spread_85 rfl 86 rfl ?_
  refine gf1_0 dX1_spread_86 89 rfl hk_l0 kw2_139 ?_
  refine x_iload_n dX1_spread_89 rfl 90 rfl ?_
  obtain ⟨hin, h⟩ := h
  refine x_iaload dX1_spread_90 (ly1_0 hk_l0) hin 91 rfl ?_
  refine x_iconst dX1_spread_91 kc_1 92 rfl ?_
  refine x_iadd dX1_spread_92 93 rfl ?_
  refine x_icmp_ne dX1_spread_93 124 96 rfl rfl (fun hc => ?_) (fun hc => ?_)
  · have h := h.1 hc
    refine x_iinc dX1_spread_124 rfl (congrArg (l4 + ·) kc_1) (Nat.le_of_ble_eq_true rfl) [(0, .ref l0), (1, .ref l1), (2, .int l2), (3, .int l3), (4, .int (l4 + 1))] rfl 127 rfl ?_
    refine x_goto dX1_spread_127 5 rfl ?_
    exact hB5 _ _ h
  · have h := h.2 hc
    refine x_aload_n dX1_spread_96 rfl 97 rfl ?_
    refine gf1_1 dX1_spread_97 100 rfl hk_l0 kw2_141 ?_
    refine x_iload dX1_spread_100 rfl 102 rfl ?_
    refine x_aload_n dX1_spread_102 rfl 103 rfl ?_
    refine gf1_1 dX1_spread_103 106 rfl hk_l0 kw2_141 ?_
    refine x_iload dX1_spread_106 rfl 108 rfl ?_
    obtain ⟨hin, h⟩ := h
    refine x_iaload dX1_spread_108 (ly1_1 hk_l0) hin 109 rfl ?_
    refine x_i2l dX1_spread_109 110 rfl ?_
    refine x_aload_n dX1_spread_110 rfl 111 rfl ?_
    refine gf1_1 dX1_spread_111 114 rfl hk_l0 kw2_141 ?_
    refine x_iload_n dX1_spread_114 rfl 115 rfl ?_
    obtain ⟨hin, h⟩ := h
    refine x_iaload dX1_spread_115 (ly1_1 hk_l0) hin 116 rfl ?_
    refine x_i2l dX1_spread_116 117 rfl ?_
    refine x_ladd dX1_spread_117 118 rfl ?_
    refine x_ldc2 dX1_spread_118 kw5_108 121 rfl ?_
    refine x_lrem dX1_spread_121 (by decide) 122 rfl ?_
    refine x_l2i dX1_spread_122 123 rfl ?_
    obtain ⟨hin, h⟩ := h
    refine x_iastore dX1_spread_123 (ly1_1 hk_l0) hin 124 rfl (x_mem (fun M1 hM1 => ?_))
    have h := h M1 hM1
    refine x_iinc dX1_spread_124 rfl (congrArg (l4 + ·) kc_1) (Nat.le_of_ble_eq_true rfl) [(0, .ref l0), (1, .ref l1), (2, .int l2), (3, .int l3), (4, .int (l4 + 1))] rfl 127 rfl ?_
    refine x_goto dX1_spread_127 5 rfl ?_
    exact hB5 _ _ h
def lbX1_spread_5 (Q : Mem → Prop) (l0 : Nat) (l1 : Nat) (l2 : Int32) (l3 : Int32) (B5 : Int32 → Mem → Prop) (l4 : Int32) (M : Mem) : Prop :=
  (((l2 + 2) < l4 → Q M) ∧ (¬ (l2 + 2) < l4 → ((l4 = l2 → B5 (l4 + 1) M) ∧ (¬ l4 = l2 → FX9_isPillar (fun (r2 : Bool) => ((r2 = false → B5 (l4 + 1) M) ∧ (r2 = true → vp_in l2 10 ∧ vp_in l4 10 ∧ FJ9_abs_0f7a4 (fun (r3 : Int32) => ((r3 ≤ l3 → vp_in l4 10 ∧ ((¬ (M (l0 + 1) (ix l4)) = (-1) → NX1_spread_78 Q B5 l0 l1 l2 l3 l4 M) ∧ ((M (l0 + 1) (ix l4)) = (-1) → vp_in l2 10 ∧ vp_in l4 10 ∧ ∀ M4 : Mem, M4 = xu M (l0 + 1) (ix l4) ((M (l0 + 1) (ix l2)) + 1) → NX1_spread_78 Q B5 l0 l1 l2 l3 l4 M4))) ∧ (¬ r3 ≤ l3 → B5 (l4 + 1) M))) ((M (l1 + 1) (ix l2)) - (M (l1 + 1) (ix l4))) M))) l1 l4 M))))
def NX1_spread_5 (Q : Mem → Prop) (l0 : Nat) (l1 : Nat) (l2 : Int32) (l3 : Int32) (l4 : Int32) (M : Mem) : Prop := xlp (fun (B : Int32 × Mem → Prop) a => lbX1_spread_5 Q l0 l1 l2 l3 (fun l4 M => B (l4, M)) a.1 a.2) (l4, M)
theorem nX1_spread_5 {Q : Mem → Prop} {l0 : Nat} {l1 : Nat} {l2 : Int32} {l3 : Int32} {l4 : Int32} {M : Mem} (hk_l0 : SHk l0 = 1) (hk_l1 : SHk l1 = 9) (h : NX1_spread_5 Q l0 l1 l2 l3 l4 M) : xX RX1 cX1_spread 5 none 2 5 [(0, .ref l0), (1, .ref l1), (2, .int l2), (3, .int l3), (4, .int l4)] [] M (xQv Q) := by
  obtain ⟨n, h⟩ := h
  have hB5 : ∀ (n : Nat) (l4 : Int32) (M : Mem), xlpn (fun (B : Int32 × Mem → Prop) a => lbX1_spread_5 Q l0 l1 l2 l3 (fun l4 M => B (l4, M)) a.1 a.2) n (l4, M) → xX RX1 cX1_spread 5 none 2 5 [(0, .ref l0), (1, .ref l1), (2, .int l2), (3, .int l3), (4, .int l4)] [] M (xQv Q) := by
    intro n
    induction n with
    | zero => intro l4 M h; exact False.elim h
    | succ n ih =>
      intro l4 M h
      have hB5 := ih
      have h : lbX1_spread_5 Q l0 l1 l2 l3 (fun l4 M => xlpn (fun (B : Int32 × Mem → Prop) a => lbX1_spread_5 Q l0 l1 l2 l3 (fun l4 M => B (l4, M)) a.1 a.2) n (l4, M)) l4 M := h
      unfold lbX1_spread_5 at h
      refine x_iload dX1_spread_5 rfl 7 rfl ?_
      refine x_iload_n dX1_spread_7 rfl 8 rfl ?_
      refine x_iconst dX1_spread_8 kc_2 9 rfl ?_
      refine x_iadd dX1_spread_9 10 rfl ?_
      refine x_icmp_gt dX1_spread_10 130 13 rfl rfl (fun hc => ?_) (fun hc => ?_)
      · have h := h.1 hc
        exact x_vret dX1_spread_130 h
      · have h := h.2 hc
        refine x_iload dX1_spread_13 rfl 15 rfl ?_
        refine x_iload_n dX1_spread_15 rfl 16 rfl ?_
        refine x_icmp_eq dX1_spread_16 124 19 rfl rfl (fun hc => ?_) (fun hc => ?_)
        · have h := h.1 hc
          refine x_iinc dX1_spread_124 rfl (congrArg (l4 + ·) kc_1) (Nat.le_of_ble_eq_true rfl) [(0, .ref l0), (1, .ref l1), (2, .int l2), (3, .int l3), (4, .int (l4 + 1))] rfl 127 rfl ?_
          refine x_goto dX1_spread_127 5 rfl ?_
          exact hB5 _ _ h
        · have h := h.2 hc
          refine x_aload_n dX1_spread_19 rfl 20 rfl ?_
          refine x_iload dX1_spread_20 rfl 22 rfl ?_
          refine kX9_isPillar dX1_spread_22 25 rfl hk_l1 kw5_102 (Nat.le_of_ble_eq_true rfl) (Nat.le_of_ble_eq_true rfl) h (fun r2 h => ?_)
          refine x_if_eq_b dX1_spread_25 124 28 rfl rfl (fun hc => ?_) (fun hc => ?_)
          · have h := h.1 hc
            refine x_iinc dX1_spread_124 rfl (congrArg (l4 + ·) kc_1) (Nat.le_of_ble_eq_true rfl) [(0, .ref l0), (1, .ref l1), (2, .int l2), (3, .int l3), (4, .int (l4 + 1))] rfl 127 rfl ?_
            refine x_goto dX1_spread_127 5 rfl ?_
            exact hB5 _ _ h
          · have h := h.2 hc
            refine x_aload_n dX1_spread_28 rfl 29 rfl ?_
            refine gf9_1 dX1_spread_29 32 rfl hk_l1 kw1_47 ?_
            refine x_iload_n dX1_spread_32 rfl 33 rfl ?_
            obtain ⟨hin, h⟩ := h
            refine x_iaload dX1_spread_33 (ly9_1 hk_l1) hin 34 rfl ?_
            refine x_aload_n dX1_spread_34 rfl 35 rfl ?_
            refine gf9_1 dX1_spread_35 38 rfl hk_l1 kw1_47 ?_
            refine x_iload dX1_spread_38 rfl 40 rfl ?_
            obtain ⟨hin, h⟩ := h
            refine x_iaload dX1_spread_40 (ly9_1 hk_l1) hin 41 rfl ?_
            refine x_isub dX1_spread_41 42 rfl ?_
            refine kJ9_abs_0f7a4 dX1_spread_42 45 rfl kw5_107 (Nat.le_of_ble_eq_true rfl) (Nat.le_of_ble_eq_true rfl) h (fun r3 h => ?_)
            refine x_iload_n dX1_spread_45 rfl 46 rfl ?_
            refine x_icmp_le dX1_spread_46 52 49 rfl rfl (fun hc => ?_) (fun hc => ?_)
            · have h := h.1 hc
              refine x_aload_n dX1_spread_52 rfl 53 rfl ?_
              refine gf1_0 dX1_spread_53 56 rfl hk_l0 kw2_139 ?_
              refine x_iload dX1_spread_56 rfl 58 rfl ?_
              obtain ⟨hin, h⟩ := h
              refine x_iaload dX1_spread_58 (ly1_0 hk_l0) hin 59 rfl ?_
              refine x_iconst dX1_spread_59 kc_m1 60 rfl ?_
              refine x_icmp_ne dX1_spread_60 78 63 rfl rfl (fun hc => ?_) (fun hc => ?_)
              · have h := h.1 hc
                exact nX1_spread_78 hB5 hk_l0 hk_l1 h
              · have h := h.2 hc
                refine x_aload_n dX1_spread_63 rfl 64 rfl ?_
                refine gf1_0 dX1_spread_64 67 rfl hk_l0 kw2_139 ?_
                refine x_iload dX1_spread_67 rfl 69 rfl ?_
                refine x_aload_n dX1_spread_69 rfl 70 rfl ?_
                refine gf1_0 dX1_spread_70 73 rfl hk_l0 kw2_139 ?_
                refine x_iload_n dX1_spread_73 rfl 74 rfl ?_
                obtain ⟨hin, h⟩ := h
                refine x_iaload dX1_spread_74 (ly1_0 hk_l0) hin 75 rfl ?_
                refine x_iconst dX1_spread_75 kc_1 76 rfl ?_
                refine x_iadd dX1_spread_76 77 rfl ?_
                obtain ⟨hin, h⟩ := h
                refine x_iastore dX1_spread_77 (ly1_0 hk_l0) hin 78 rfl (x_mem (fun M4 hM4 => ?_))
                have h := h M4 hM4
                exact nX1_spread_78 hB5 hk_l0 hk_l1 h
            · have h := h.2 hc
              refine x_goto dX1_spread_49 124 rfl ?_
              refine x_iinc dX1_spread_124 rfl (congrArg (l4 + ·) kc_1) (Nat.le_of_ble_eq_true rfl) [(0, .ref l0), (1, .ref l1), (2, .int l2), (3, .int l3), (4, .int (l4 + 1))] rfl 127 rfl ?_
              refine x_goto dX1_spread_127 5 rfl ?_
              exact hB5 _ _ h
  exact hB5 n l4 M h
def FX1_spread (Q : Mem → Prop) (l0 : Nat) (l1 : Nat) (l2 : Int32) (l3 : Int32) (M : Mem) : Prop :=
  NX1_spread_5 Q l0 l1 l2 l3 (l2 - 2) M
theorem eX1_spread {Q : Mem → Prop} {l0 : Nat} {l1 : Nat} {l2 : Int32} {l3 : Int32} {M : Mem} (hk_l0 : SHk l0 = 1) (hk_l1 : SHk l1 = 9) (h : FX1_spread Q l0 l1 l2 l3 M) : xX RX1 cX1_spread 5 none 2 0 [(0, .ref l0), (1, .ref l1), (2, .int l2), (3, .int l3)] [] M (xQv Q) := by
  unfold FX1_spread at h
  refine x_iload_n dX1_spread_0 rfl 1 rfl ?_
  refine x_iconst dX1_spread_1 kc_2 2 rfl ?_
  refine x_isub dX1_spread_2 3 rfl ?_
  refine x_istore dX1_spread_3 (Nat.le_of_ble_eq_true rfl) [(0, .ref l0), (1, .ref l1), (2, .int l2), (3, .int l3), (4, .int (l2 - 2))] rfl 5 rfl ?_
  exact nX1_spread_5 hk_l0 hk_l1 h
theorem cX1_spread_ {Q : Mem → Prop} {l0 : Nat} {l1 : Nat} {l2 : Int32} {l3 : Int32} {M : Mem} (hk_l0 : SHk l0 = 1) (hk_l1 : SHk l1 = 9) (h : FX1_spread Q l0 l1 l2 l3 M) : xM yX1_spread cX1_spread 5 none 2 [.ref l0, .ref l1, .int l2, .int l3] M (xQv Q) := xM_of (by decide +kernel) (Nat.le_of_ble_eq_true rfl) (eX1_spread hk_l0 hk_l1 h)
theorem kX1_spread {own : String} {cc : ByteArray} {nL : Nat} {rt : Option FieldType} {d pc ix : Nat} {L : List (Nat × Value)} {st : List Value} {M : Mem} {Rt : xGt → Array Value → State → Outcome → State → Prop} {Q : Mem → Prop} {l0 : Nat} {l1 : Nat} {l2 : Int32} {l3 : Int32} (hd : decode cc pc = .ok (.invokevirtual ix, 3)) (q : Nat) (hq : pc + 3 = q) (hk_l0 : SHk l0 = 1) (hk_l1 : SHk l1 = 9) (w1 : Cond.methodLink own ix yX1_spread ∈ xTs) (hr : 2 < d) (hst : (st.map fun v => v.category).sum ≤ 8) (h : FX1_spread Q l0 l1 l2 l3 M) (k : ∀ (N : Mem), Q N → xX own cc nL rt d q L st N Rt) : xX own cc nL rt d pc L (.int l3 :: .int l2 :: .ref l1 :: .ref l0 :: st) M Rt :=
  x_callV_v (n := 3) (As := [.ref l1, .int l2, .int l3]) hd q hq hk_l0 (by decide) rfl rfl w1 kw5_105 ks3_0 kw1_13 kw5_106 (by decide +kernel) rfl hr (by decide) hst _ rfl (cX1_spread_ hk_l0 hk_l1 h) k
def lbX1_walk_52 (Q : Mem → Prop) (B42 : Int32 → Mem → Prop) (l0 : Nat) (l1 : Nat) (l3 : Int32) (l4 : Int32) (B52 : Int32 → Mem → Prop) (l5 : Int32) (M : Mem) : Prop :=
  (((M l1 10) ≤ l5 → B42 (l4 + 1) M) ∧ (¬ (M l1 10) ≤ l5 → vp_in l5 10 ∧ ((¬ (M (l0 + 1) (ix l5)) = l4 → B52 (l5 + 1) M) ∧ ((M (l0 + 1) (ix l5)) = l4 → FX1_spread (fun (M1 : Mem) => B52 (l5 + 1) M1) l0 l1 l5 l3 M))))
def NX1_walk_52 (Q : Mem → Prop) (B42 : Int32 → Mem → Prop) (l0 : Nat) (l1 : Nat) (l3 : Int32) (l4 : Int32) (l5 : Int32) (M : Mem) : Prop := xlp (fun (B : Int32 × Mem → Prop) a => lbX1_walk_52 Q B42 l0 l1 l3 l4 (fun l5 M => B (l5, M)) a.1 a.2) (l5, M)
theorem nX1_walk_52 {Q : Mem → Prop} {B42 : Int32 → Mem → Prop} {l0 : Nat} {l1 : Nat} {l3 : Int32} {l4 : Int32} {l5 : Int32} {M : Mem} (hB42 : ∀ (l4 : Int32) (M : Mem), B42 l4 M → xX RX1 cX1_walk 6 none 3 42 [(0, .ref l0), (1, .ref l1), (3, .int l3), (4, .int l4)] [] M (xQv Q)) (hk_l0 : SHk l0 = 1) (hk_l1 : SHk l1 = 9) (h : NX1_walk_52 Q B42 l0 l1 l3 l4 l5 M) : xX RX1 cX1_walk 6 none 3 52 [(0, .ref l0), (1, .ref l1), (3, .int l3), (4, .int l4), (5, .int l5)] [] M (xQv Q) := by
  obtain ⟨n, h⟩ := h
  have hB52 : ∀ (n : Nat) (l5 : Int32) (M : Mem), xlpn (fun (B : Int32 × Mem → Prop) a => lbX1_walk_52 Q B42 l0 l1 l3 l4 (fun l5 M => B (l5, M)) a.1 a.2) n (l5, M) → xX RX1 cX1_walk 6 none 3 52 [(0, .ref l0), (1, .ref l1), (3, .int l3), (4, .int l4), (5, .int l5)] [] M (xQv Q) := by
    intro n
    induction n with
    | zero => intro l5 M h; exact False.elim h
    | succ n ih =>
      intro l5 M h
      have hB52 := ih
      have h : lbX1_walk_52 Q B42 l0 l1 l3 l4 (fun l5 M => xlpn (fun (B : Int32 × Mem → Prop) a => lbX1_walk_52 Q B42 l0 l1 l3 l4 (fun l5 M => B (l5, M)) a.1 a.2) n (l5, M)) l5 M := h
      unfold lbX1_walk_52 at h
      refine x_iload dX1_walk_52 rfl 54 rfl ?_
      refine x_aload_n dX1_walk_54 rfl 55 rfl ?_
      refine gf9_10 dX1_walk_55 58 rfl hk_l1 kw1_67 ?_
      refine x_icmp_ge dX1_walk_58 87 61 rfl rfl (fun hc => ?_) (fun hc => ?_)
      · have h := h.1 hc
        refine x_iinc dX1_walk_87 rfl (congrArg (l4 + ·) kc_1) (Nat.le_of_ble_eq_true rfl) [(0, .ref l0), (1, .ref l1), (3, .int l3), (4, .int (l4 + 1)), (5, .int l5)] rfl 90 rfl ?_
        refine x_goto dX1_walk_90 42 rfl ?_
        refine x_weak [(0, .ref l0), (1, .ref l1), (3, .int l3), (4, .int (l4 + 1))] [0, 1, 2, 3] rfl ?_
        exact hB42 _ _ h
      · have h := h.2 hc
        refine x_aload_n dX1_walk_61 rfl 62 rfl ?_
        refine gf1_0 dX1_walk_62 65 rfl hk_l0 kw2_139 ?_
        refine x_iload dX1_walk_65 rfl 67 rfl ?_
        obtain ⟨hin, h⟩ := h
        refine x_iaload dX1_walk_67 (ly1_0 hk_l0) hin 68 rfl ?_
        refine x_iload dX1_walk_68 rfl 70 rfl ?_
        refine x_icmp_ne dX1_walk_70 81 73 rfl rfl (fun hc => ?_) (fun hc => ?_)
        · have h := h.1 hc
          refine x_iinc dX1_walk_81 rfl (congrArg (l5 + ·) kc_1) (Nat.le_of_ble_eq_true rfl) [(0, .ref l0), (1, .ref l1), (3, .int l3), (4, .int l4), (5, .int (l5 + 1))] rfl 84 rfl ?_
          refine x_goto dX1_walk_84 52 rfl ?_
          exact hB52 _ _ h
        · have h := h.2 hc
          refine x_aload_n dX1_walk_73 rfl 74 rfl ?_
          refine x_aload_n dX1_walk_74 rfl 75 rfl ?_
          refine x_iload dX1_walk_75 rfl 77 rfl ?_
          refine x_iload_n dX1_walk_77 rfl 78 rfl ?_
          refine kX1_spread dX1_walk_78 81 rfl hk_l0 hk_l1 kw5_103 (Nat.le_of_ble_eq_true rfl) (Nat.le_of_ble_eq_true rfl) h (fun M1 h => ?_)
          refine x_iinc dX1_walk_81 rfl (congrArg (l5 + ·) kc_1) (Nat.le_of_ble_eq_true rfl) [(0, .ref l0), (1, .ref l1), (3, .int l3), (4, .int l4), (5, .int (l5 + 1))] rfl 84 rfl ?_
          refine x_goto dX1_walk_84 52 rfl ?_
          exact hB52 _ _ h
  exact hB52 n l5 M h
def lbX1_walk_42 (Q : Mem → Prop) (l0 : Nat) (l1 : Nat) (l3 : Int32) (B42 : Int32 → Mem → Prop) (l4 : Int32) (M : Mem) : Prop :=
  ((10 ≤ l4 → Q M) ∧ (¬ 10 ≤ l4 → NX1_walk_52 Q B42 l0 l1 l3 l4 0 M))
def NX1_walk_42 (Q : Mem → Prop) (l0 : Nat) (l1 : Nat) (l3 : Int32) (l4 : Int32) (M : Mem) : Prop := xlp (fun (B : Int32 × Mem → Prop) a => lbX1_walk_42 Q l0 l1 l3 (fun l4 M => B (l4, M)) a.1 a.2) (l4, M)
theorem nX1_walk_42 {Q : Mem → Prop} {l0 : Nat} {l1 : Nat} {l3 : Int32} {l4 : Int32} {M : Mem} (hk_l0 : SHk l0 = 1) (hk_l1 : SHk l1 = 9) (h : NX1_walk_42 Q l0 l1 l3 l4 M) : xX RX1 cX1_walk 6 none 3 42 [(0, .ref l0), (1, .ref l1), (3, .int l3), (4, .int l4)] [] M (xQv Q) := by
  obtain ⟨n, h⟩ := h
  have hB42 : ∀ (n : Nat) (l4 : Int32) (M : Mem), xlpn (fun (B : Int32 × Mem → Prop) a => lbX1_walk_42 Q l0 l1 l3 (fun l4 M => B (l4, M)) a.1 a.2) n (l4, M) → xX RX1 cX1_walk 6 none 3 42 [(0, .ref l0), (1, .ref l1), (3, .int l3), (4, .int l4)] [] M (xQv Q) := by
    intro n
    induction n with
    | zero => intro l4 M h; exact False.elim h
    | succ n ih =>
      intro l4 M h
      have hB42 := ih
      have h : lbX1_walk_42 Q l0 l1 l3 (fun l4 M => xlpn (fun (B : Int32 × Mem → Prop) a => lbX1_walk_42 Q l0 l1 l3 (fun l4 M => B (l4, M)) a.1 a.2) n (l4, M)) l4 M := h
      unfold lbX1_walk_42 at h
      refine x_iload dX1_walk_42 rfl 44 rfl ?_
      refine x_bipush dX1_walk_44 kb_10 46 rfl ?_
      refine x_icmp_ge dX1_walk_46 93 49 rfl rfl (fun hc => ?_) (fun hc => ?_)
      · have h := h.1 hc
        exact x_vret dX1_walk_93 h
      · have h := h.2 hc
        refine x_iconst dX1_walk_49 kc_0 50 rfl ?_
        refine x_istore dX1_walk_50 (Nat.le_of_ble_eq_true rfl) [(0, .ref l0), (1, .ref l1), (3, .int l3), (4, .int l4), (5, .int 0)] rfl 52 rfl ?_
        exact nX1_walk_52 hB42 hk_l0 hk_l1 h
  exact hB42 n l4 M h
def FX1_walk (Q : Mem → Prop) (l0 : Nat) (l1 : Nat) (l2 : Int32) (l3 : Int32) (M : Mem) : Prop :=
  FJ7_fill_53178 (fun (M2 : Mem) => FJ7_fill_53178 (fun (M3 : Mem) => FX9_isPillar (fun (r4 : Bool) => ((r4 = true → vp_in l2 10 ∧ ∀ M5 : Mem, M5 = xu M3 (l0 + 1) (ix l2) 0 → vp_in l2 10 ∧ ∀ M6 : Mem, M6 = xu M5 (l0 + 2) (ix l2) 1 → NX1_walk_42 Q l0 l1 l3 0 M6) ∧ (r4 = false → Q M3))) l1 l2 M3) (l0 + 2) 0 M2) (l0 + 1) (-1) M
theorem eX1_walk {Q : Mem → Prop} {l0 : Nat} {l1 : Nat} {l2 : Int32} {l3 : Int32} {M : Mem} (hk_l0 : SHk l0 = 1) (hk_l1 : SHk l1 = 9) (h : FX1_walk Q l0 l1 l2 l3 M) : xX RX1 cX1_walk 6 none 3 0 [(0, .ref l0), (1, .ref l1), (2, .int l2), (3, .int l3)] [] M (xQv Q) := by
  unfold FX1_walk at h
  refine x_aload_n dX1_walk_0 rfl 1 rfl ?_
  refine gf1_0 dX1_walk_1 4 rfl hk_l0 kw2_139 ?_
  refine x_iconst dX1_walk_4 kc_m1 5 rfl ?_
  refine kJ7_fill_53178 dX1_walk_5 8 rfl (ly1_0 hk_l0).1 kw5_101 (Nat.le_of_ble_eq_true rfl) (Nat.le_of_ble_eq_true rfl) h (fun M2 h => ?_)
  refine x_aload_n dX1_walk_8 rfl 9 rfl ?_
  refine gf1_1 dX1_walk_9 12 rfl hk_l0 kw2_141 ?_
  refine x_iconst dX1_walk_12 kc_0 13 rfl ?_
  refine kJ7_fill_53178 dX1_walk_13 16 rfl (ly1_1 hk_l0).1 kw5_101 (Nat.le_of_ble_eq_true rfl) (Nat.le_of_ble_eq_true rfl) h (fun M3 h => ?_)
  refine x_aload_n dX1_walk_16 rfl 17 rfl ?_
  refine x_iload_n dX1_walk_17 rfl 18 rfl ?_
  refine kX9_isPillar dX1_walk_18 21 rfl hk_l1 kw5_102 (Nat.le_of_ble_eq_true rfl) (Nat.le_of_ble_eq_true rfl) h (fun r4 h => ?_)
  refine x_if_ne_b dX1_walk_21 25 24 rfl rfl (fun hc => ?_) (fun hc => ?_)
  · have h := h.1 hc
    refine x_aload_n dX1_walk_25 rfl 26 rfl ?_
    refine gf1_0 dX1_walk_26 29 rfl hk_l0 kw2_139 ?_
    refine x_iload_n dX1_walk_29 rfl 30 rfl ?_
    refine x_iconst dX1_walk_30 kc_0 31 rfl ?_
    obtain ⟨hin, h⟩ := h
    refine x_iastore dX1_walk_31 (ly1_0 hk_l0) hin 32 rfl (x_mem (fun M5 hM5 => ?_))
    have h := h M5 hM5
    refine x_aload_n dX1_walk_32 rfl 33 rfl ?_
    refine gf1_1 dX1_walk_33 36 rfl hk_l0 kw2_141 ?_
    refine x_iload_n dX1_walk_36 rfl 37 rfl ?_
    refine x_iconst dX1_walk_37 kc_1 38 rfl ?_
    obtain ⟨hin, h⟩ := h
    refine x_iastore dX1_walk_38 (ly1_1 hk_l0) hin 39 rfl (x_mem (fun M6 hM6 => ?_))
    have h := h M6 hM6
    refine x_iconst dX1_walk_39 kc_0 40 rfl ?_
    refine x_istore dX1_walk_40 (Nat.le_of_ble_eq_true rfl) [(0, .ref l0), (1, .ref l1), (2, .int l2), (3, .int l3), (4, .int 0)] rfl 42 rfl ?_
    refine x_weak [(0, .ref l0), (1, .ref l1), (3, .int l3), (4, .int 0)] [0, 1, 3, 4] rfl ?_
    exact nX1_walk_42 hk_l0 hk_l1 h
  · have h := h.2 hc
    exact x_vret dX1_walk_24 h
theorem cX1_walk_ {Q : Mem → Prop} {l0 : Nat} {l1 : Nat} {l2 : Int32} {l3 : Int32} {M : Mem} (hk_l0 : SHk l0 = 1) (hk_l1 : SHk l1 = 9) (h : FX1_walk Q l0 l1 l2 l3 M) : xM yX1_walk cX1_walk 6 none 3 [.ref l0, .ref l1, .int l2, .int l3] M (xQv Q) := xM_of (by decide +kernel) (Nat.le_of_ble_eq_true rfl) (eX1_walk hk_l0 hk_l1 h)
theorem kX1_walk {own : String} {cc : ByteArray} {nL : Nat} {rt : Option FieldType} {d pc ix : Nat} {L : List (Nat × Value)} {st : List Value} {M : Mem} {Rt : xGt → Array Value → State → Outcome → State → Prop} {Q : Mem → Prop} {l0 : Nat} {l1 : Nat} {l2 : Int32} {l3 : Int32} (hd : decode cc pc = .ok (.invokevirtual ix, 3)) (q : Nat) (hq : pc + 3 = q) (hk_l0 : SHk l0 = 1) (hk_l1 : SHk l1 = 9) (w1 : Cond.methodLink own ix yX1_walk ∈ xTs) (hr : 3 < d) (hst : (st.map fun v => v.category).sum ≤ 8) (h : FX1_walk Q l0 l1 l2 l3 M) (k : ∀ (N : Mem), Q N → xX own cc nL rt d q L st N Rt) : xX own cc nL rt d pc L (.int l3 :: .int l2 :: .ref l1 :: .ref l0 :: st) M Rt :=
  x_callV_v (n := 3) (As := [.ref l1, .int l2, .int l3]) hd q hq hk_l0 (by decide) rfl rfl w1 kw5_98 kw5_99 kw1_13 kw5_100 (by decide +kernel) rfl hr (by decide) hst _ rfl (cX1_walk_ hk_l0 hk_l1 h) k
def FX2_clear (Q : Mem → Prop) (l0 : Nat) (M : Mem) : Prop :=
  ∀ M1 : Mem, M1 = xu M l0 7 0 → ∀ M2 : Mem, M2 = xu M1 l0 6 0 → Q M2
theorem eX2_clear {Q : Mem → Prop} {l0 : Nat} {M : Mem} (hk_l0 : SHk l0 = 2) (h : FX2_clear Q l0 M) : xX RX2 cX2_clear 1 none 1 0 [(0, .ref l0)] [] M (xQv Q) := by
  unfold FX2_clear at h
  refine x_aload_n dX2_clear_0 rfl 1 rfl ?_
  refine x_iconst dX2_clear_1 kc_0 2 rfl ?_
  refine pf2_7 dX2_clear_2 5 rfl hk_l0 kw1_150 (x_mem (fun M1 hM1 => ?_))
  have h := h M1 hM1
  refine x_aload_n dX2_clear_5 rfl 6 rfl ?_
  refine x_iconst dX2_clear_6 kc_0 7 rfl ?_
  refine pf2_6 dX2_clear_7 10 rfl hk_l0 kw1_149 (x_mem (fun M2 hM2 => ?_))
  have h := h M2 hM2
  exact x_vret dX2_clear_10 h
theorem cX2_clear_ {Q : Mem → Prop} {l0 : Nat} {M : Mem} (hk_l0 : SHk l0 = 2) (h : FX2_clear Q l0 M) : xM yX2_clear cX2_clear 1 none 1 [.ref l0] M (xQv Q) := xM_of (by decide +kernel) (Nat.le_of_ble_eq_true rfl) (eX2_clear hk_l0 h)
theorem kX2_clear {own : String} {cc : ByteArray} {nL : Nat} {rt : Option FieldType} {d pc ix : Nat} {L : List (Nat × Value)} {st : List Value} {M : Mem} {Rt : xGt → Array Value → State → Outcome → State → Prop} {Q : Mem → Prop} {l0 : Nat} (hd : decode cc pc = .ok (.invokevirtual ix, 3)) (q : Nat) (hq : pc + 3 = q) (hk_l0 : SHk l0 = 2) (w1 : Cond.methodLink own ix yX2_clear ∈ xTs) (hr : 1 < d) (hst : (st.map fun v => v.category).sum ≤ 8) (h : FX2_clear Q l0 M) (k : ∀ (N : Mem), Q N → xX own cc nL rt d q L st N Rt) : xX own cc nL rt d pc L (.ref l0 :: st) M Rt :=
  x_callV_v (n := 0) (As := []) hd q hq hk_l0 (by decide) rfl rfl w1 kw4_37 kw4_38 kw1_5 kw4_39 (by decide +kernel) rfl hr (by decide) hst _ rfl (cX2_clear_ hk_l0 h) k
def FX2_openLine (Q : Mem → Prop) (l0 : Nat) (l1 : Int32) (M : Mem) : Prop :=
  ((16 ≤ (M l0 7) → Q M) ∧ (¬ 16 ≤ (M l0 7) → vp_in (M l0 7) 16 ∧ ∀ M1 : Mem, M1 = xu M (l0 + 2) (ix (M l0 7)) l1 → vp_in (M1 l0 7) 16 ∧ ∀ M2 : Mem, M2 = xu M1 (l0 + 3) (ix (M1 l0 7)) (M1 l0 6) → Q M2))
theorem eX2_openLine {Q : Mem → Prop} {l0 : Nat} {l1 : Int32} {M : Mem} (hk_l0 : SHk l0 = 2) (h : FX2_openLine Q l0 l1 M) : xX RX2 cX2_openLine 2 none 1 0 [(0, .ref l0), (1, .int l1)] [] M (xQv Q) := by
  unfold FX2_openLine at h
  refine x_aload_n dX2_openLine_0 rfl 1 rfl ?_
  refine gf2_7 dX2_openLine_1 4 rfl hk_l0 kw1_150 ?_
  refine x_bipush dX2_openLine_4 kb_16 6 rfl ?_
  refine x_icmp_ge dX2_openLine_6 32 9 rfl rfl (fun hc => ?_) (fun hc => ?_)
  · have h := h.1 hc
    exact x_vret dX2_openLine_32 h
  · have h := h.2 hc
    refine x_aload_n dX2_openLine_9 rfl 10 rfl ?_
    refine gf2_1 dX2_openLine_10 13 rfl hk_l0 kw1_144 ?_
    refine x_aload_n dX2_openLine_13 rfl 14 rfl ?_
    refine gf2_7 dX2_openLine_14 17 rfl hk_l0 kw1_150 ?_
    refine x_iload_n dX2_openLine_17 rfl 18 rfl ?_
    obtain ⟨hin, h⟩ := h
    refine x_iastore dX2_openLine_18 (ly2_1 hk_l0) hin 19 rfl (x_mem (fun M1 hM1 => ?_))
    have h := h M1 hM1
    refine x_aload_n dX2_openLine_19 rfl 20 rfl ?_
    refine gf2_2 dX2_openLine_20 23 rfl hk_l0 kw1_145 ?_
    refine x_aload_n dX2_openLine_23 rfl 24 rfl ?_
    refine gf2_7 dX2_openLine_24 27 rfl hk_l0 kw1_150 ?_
    refine x_aload_n dX2_openLine_27 rfl 28 rfl ?_
    refine gf2_6 dX2_openLine_28 31 rfl hk_l0 kw1_149 ?_
    obtain ⟨hin, h⟩ := h
    refine x_iastore dX2_openLine_31 (ly2_2 hk_l0) hin 32 rfl (x_mem (fun M2 hM2 => ?_))
    have h := h M2 hM2
    exact x_vret dX2_openLine_32 h
theorem cX2_openLine_ {Q : Mem → Prop} {l0 : Nat} {l1 : Int32} {M : Mem} (hk_l0 : SHk l0 = 2) (h : FX2_openLine Q l0 l1 M) : xM yX2_openLine cX2_openLine 2 none 1 [.ref l0, .int l1] M (xQv Q) := xM_of (by decide +kernel) (Nat.le_of_ble_eq_true rfl) (eX2_openLine hk_l0 h)
theorem kX2_openLine {own : String} {cc : ByteArray} {nL : Nat} {rt : Option FieldType} {d pc ix : Nat} {L : List (Nat × Value)} {st : List Value} {M : Mem} {Rt : xGt → Array Value → State → Outcome → State → Prop} {Q : Mem → Prop} {l0 : Nat} {l1 : Int32} (hd : decode cc pc = .ok (.invokevirtual ix, 3)) (q : Nat) (hq : pc + 3 = q) (hk_l0 : SHk l0 = 2) (w1 : Cond.methodLink own ix yX2_openLine ∈ xTs) (hr : 1 < d) (hst : (st.map fun v => v.category).sum ≤ 8) (h : FX2_openLine Q l0 l1 M) (k : ∀ (N : Mem), Q N → xX own cc nL rt d q L st N Rt) : xX own cc nL rt d pc L (.int l1 :: .ref l0 :: st) M Rt :=
  x_callV_v (n := 1) (As := [.int l1]) hd q hq hk_l0 (by decide) rfl rfl w1 kw4_61 kw4_62 kw1_5 kw4_63 (by decide +kernel) rfl hr (by decide) hst _ rfl (cX2_openLine_ hk_l0 h) k
def FX2_markWhen (Q : Mem → Prop) (l0 : Nat) (M : Mem) : Prop :=
  ((16 ≤ (M l0 7) → Q M) ∧ (¬ 16 ≤ (M l0 7) → vp_in (M l0 7) 16 ∧ ∀ M1 : Mem, M1 = xu M (l0 + 4) (ix (M l0 7)) (M l0 6) → Q M1))
theorem eX2_markWhen {Q : Mem → Prop} {l0 : Nat} {M : Mem} (hk_l0 : SHk l0 = 2) (h : FX2_markWhen Q l0 M) : xX RX2 cX2_markWhen 1 none 1 0 [(0, .ref l0)] [] M (xQv Q) := by
  unfold FX2_markWhen at h
  refine x_aload_n dX2_markWhen_0 rfl 1 rfl ?_
  refine gf2_7 dX2_markWhen_1 4 rfl hk_l0 kw1_150 ?_
  refine x_bipush dX2_markWhen_4 kb_16 6 rfl ?_
  refine x_icmp_ge dX2_markWhen_6 22 9 rfl rfl (fun hc => ?_) (fun hc => ?_)
  · have h := h.1 hc
    exact x_vret dX2_markWhen_22 h
  · have h := h.2 hc
    refine x_aload_n dX2_markWhen_9 rfl 10 rfl ?_
    refine gf2_3 dX2_markWhen_10 13 rfl hk_l0 kw1_146 ?_
    refine x_aload_n dX2_markWhen_13 rfl 14 rfl ?_
    refine gf2_7 dX2_markWhen_14 17 rfl hk_l0 kw1_150 ?_
    refine x_aload_n dX2_markWhen_17 rfl 18 rfl ?_
    refine gf2_6 dX2_markWhen_18 21 rfl hk_l0 kw1_149 ?_
    obtain ⟨hin, h⟩ := h
    refine x_iastore dX2_markWhen_21 (ly2_3 hk_l0) hin 22 rfl (x_mem (fun M1 hM1 => ?_))
    have h := h M1 hM1
    exact x_vret dX2_markWhen_22 h
theorem cX2_markWhen_ {Q : Mem → Prop} {l0 : Nat} {M : Mem} (hk_l0 : SHk l0 = 2) (h : FX2_markWhen Q l0 M) : xM yX2_markWhen cX2_markWhen 1 none 1 [.ref l0] M (xQv Q) := xM_of (by decide +kernel) (Nat.le_of_ble_eq_true rfl) (eX2_markWhen hk_l0 h)
theorem kX2_markWhen {own : String} {cc : ByteArray} {nL : Nat} {rt : Option FieldType} {d pc ix : Nat} {L : List (Nat × Value)} {st : List Value} {M : Mem} {Rt : xGt → Array Value → State → Outcome → State → Prop} {Q : Mem → Prop} {l0 : Nat} (hd : decode cc pc = .ok (.invokevirtual ix, 3)) (q : Nat) (hq : pc + 3 = q) (hk_l0 : SHk l0 = 2) (w1 : Cond.methodLink own ix yX2_markWhen ∈ xTs) (hr : 1 < d) (hst : (st.map fun v => v.category).sum ≤ 8) (h : FX2_markWhen Q l0 M) (k : ∀ (N : Mem), Q N → xX own cc nL rt d q L st N Rt) : xX own cc nL rt d pc L (.ref l0 :: st) M Rt :=
  x_callV_v (n := 0) (As := []) hd q hq hk_l0 (by decide) rfl rfl w1 kw4_85 kw4_86 kw1_5 kw4_87 (by decide +kernel) rfl hr (by decide) hst _ rfl (cX2_markWhen_ hk_l0 h) k
def FX2_closeLine (Q : Mem → Prop) (l0 : Nat) (M : Mem) : Prop :=
  ((16 ≤ (M l0 7) → Q M) ∧ (¬ 16 ≤ (M l0 7) → vp_in (M l0 7) 16 ∧ ∀ M1 : Mem, M1 = xu M (l0 + 5) (ix (M l0 7)) (M l0 6) → ∀ M2 : Mem, M2 = xu M1 l0 7 ((M1 l0 7) + 1) → Q M2))
theorem eX2_closeLine {Q : Mem → Prop} {l0 : Nat} {M : Mem} (hk_l0 : SHk l0 = 2) (h : FX2_closeLine Q l0 M) : xX RX2 cX2_closeLine 1 none 1 0 [(0, .ref l0)] [] M (xQv Q) := by
  unfold FX2_closeLine at h
  refine x_aload_n dX2_closeLine_0 rfl 1 rfl ?_
  refine gf2_7 dX2_closeLine_1 4 rfl hk_l0 kw1_150 ?_
  refine x_bipush dX2_closeLine_4 kb_16 6 rfl ?_
  refine x_icmp_ge dX2_closeLine_6 32 9 rfl rfl (fun hc => ?_) (fun hc => ?_)
  · have h := h.1 hc
    exact x_vret dX2_closeLine_32 h
  · have h := h.2 hc
    refine x_aload_n dX2_closeLine_9 rfl 10 rfl ?_
    refine gf2_4 dX2_closeLine_10 13 rfl hk_l0 kw1_147 ?_
    refine x_aload_n dX2_closeLine_13 rfl 14 rfl ?_
    refine gf2_7 dX2_closeLine_14 17 rfl hk_l0 kw1_150 ?_
    refine x_aload_n dX2_closeLine_17 rfl 18 rfl ?_
    refine gf2_6 dX2_closeLine_18 21 rfl hk_l0 kw1_149 ?_
    obtain ⟨hin, h⟩ := h
    refine x_iastore dX2_closeLine_21 (ly2_4 hk_l0) hin 22 rfl (x_mem (fun M1 hM1 => ?_))
    have h := h M1 hM1
    refine x_aload_n dX2_closeLine_22 rfl 23 rfl ?_
    refine x_dup dX2_closeLine_23 rfl 24 rfl ?_
    refine gf2_7 dX2_closeLine_24 27 rfl hk_l0 kw1_150 ?_
    refine x_iconst dX2_closeLine_27 kc_1 28 rfl ?_
    refine x_iadd dX2_closeLine_28 29 rfl ?_
    refine pf2_7 dX2_closeLine_29 32 rfl hk_l0 kw1_150 (x_mem (fun M2 hM2 => ?_))
    have h := h M2 hM2
    exact x_vret dX2_closeLine_32 h
theorem cX2_closeLine_ {Q : Mem → Prop} {l0 : Nat} {M : Mem} (hk_l0 : SHk l0 = 2) (h : FX2_closeLine Q l0 M) : xM yX2_closeLine cX2_closeLine 1 none 1 [.ref l0] M (xQv Q) := xM_of (by decide +kernel) (Nat.le_of_ble_eq_true rfl) (eX2_closeLine hk_l0 h)
theorem kX2_closeLine {own : String} {cc : ByteArray} {nL : Nat} {rt : Option FieldType} {d pc ix : Nat} {L : List (Nat × Value)} {st : List Value} {M : Mem} {Rt : xGt → Array Value → State → Outcome → State → Prop} {Q : Mem → Prop} {l0 : Nat} (hd : decode cc pc = .ok (.invokevirtual ix, 3)) (q : Nat) (hq : pc + 3 = q) (hk_l0 : SHk l0 = 2) (w1 : Cond.methodLink own ix yX2_closeLine ∈ xTs) (hr : 1 < d) (hst : (st.map fun v => v.category).sum ≤ 8) (h : FX2_closeLine Q l0 M) (k : ∀ (N : Mem), Q N → xX own cc nL rt d q L st N Rt) : xX own cc nL rt d pc L (.ref l0 :: st) M Rt :=
  x_callV_v (n := 0) (As := []) hd q hq hk_l0 (by decide) rfl rfl w1 kw4_101 kw4_102 kw1_5 kw4_103 (by decide +kernel) rfl hr (by decide) hst _ rfl (cX2_closeLine_ hk_l0 h) k
def FX2_emit (Q : Mem → Prop) (l0 : Nat) (l1 : Int32) (M : Mem) : Prop :=
  ((400 ≤ (M l0 6) → Q M) ∧ (¬ 400 ≤ (M l0 6) → vp_in (M l0 6) 400 ∧ ∀ M1 : Mem, M1 = xu M (l0 + 1) (ix (M l0 6)) l1 → ∀ M2 : Mem, M2 = xu M1 l0 6 ((M1 l0 6) + 1) → Q M2))
theorem eX2_emit {Q : Mem → Prop} {l0 : Nat} {l1 : Int32} {M : Mem} (hk_l0 : SHk l0 = 2) (h : FX2_emit Q l0 l1 M) : xX RX2 cX2_emit 2 none 1 0 [(0, .ref l0), (1, .int l1)] [] M (xQv Q) := by
  unfold FX2_emit at h
  refine x_aload_n dX2_emit_0 rfl 1 rfl ?_
  refine gf2_6 dX2_emit_1 4 rfl hk_l0 kw1_149 ?_
  refine x_sipush dX2_emit_4 kh_400 7 rfl ?_
  refine x_icmp_ge dX2_emit_7 30 10 rfl rfl (fun hc => ?_) (fun hc => ?_)
  · have h := h.1 hc
    exact x_vret dX2_emit_30 h
  · have h := h.2 hc
    refine x_aload_n dX2_emit_10 rfl 11 rfl ?_
    refine gf2_0 dX2_emit_11 14 rfl hk_l0 kw1_143 ?_
    refine x_aload_n dX2_emit_14 rfl 15 rfl ?_
    refine gf2_6 dX2_emit_15 18 rfl hk_l0 kw1_149 ?_
    refine x_iload_n dX2_emit_18 rfl 19 rfl ?_
    obtain ⟨hin, h⟩ := h
    refine x_iastore dX2_emit_19 (ly2_0 hk_l0) hin 20 rfl (x_mem (fun M1 hM1 => ?_))
    have h := h M1 hM1
    refine x_aload_n dX2_emit_20 rfl 21 rfl ?_
    refine x_dup dX2_emit_21 rfl 22 rfl ?_
    refine gf2_6 dX2_emit_22 25 rfl hk_l0 kw1_149 ?_
    refine x_iconst dX2_emit_25 kc_1 26 rfl ?_
    refine x_iadd dX2_emit_26 27 rfl ?_
    refine pf2_6 dX2_emit_27 30 rfl hk_l0 kw1_149 (x_mem (fun M2 hM2 => ?_))
    have h := h M2 hM2
    exact x_vret dX2_emit_30 h
theorem cX2_emit_ {Q : Mem → Prop} {l0 : Nat} {l1 : Int32} {M : Mem} (hk_l0 : SHk l0 = 2) (h : FX2_emit Q l0 l1 M) : xM yX2_emit cX2_emit 2 none 1 [.ref l0, .int l1] M (xQv Q) := xM_of (by decide +kernel) (Nat.le_of_ble_eq_true rfl) (eX2_emit hk_l0 h)
theorem kX2_emit {own : String} {cc : ByteArray} {nL : Nat} {rt : Option FieldType} {d pc ix : Nat} {L : List (Nat × Value)} {st : List Value} {M : Mem} {Rt : xGt → Array Value → State → Outcome → State → Prop} {Q : Mem → Prop} {l0 : Nat} {l1 : Int32} (hd : decode cc pc = .ok (.invokevirtual ix, 3)) (q : Nat) (hq : pc + 3 = q) (hk_l0 : SHk l0 = 2) (w1 : Cond.methodLink own ix yX2_emit ∈ xTs) (hr : 1 < d) (hst : (st.map fun v => v.category).sum ≤ 8) (h : FX2_emit Q l0 l1 M) (k : ∀ (N : Mem), Q N → xX own cc nL rt d q L st N Rt) : xX own cc nL rt d pc L (.int l1 :: .ref l0 :: st) M Rt :=
  x_callV_v (n := 1) (As := [.int l1]) hd q hq hk_l0 (by decide) rfl rfl w1 kw4_77 kw4_78 kw1_5 kw4_79 (by decide +kernel) rfl hr (by decide) hst _ rfl (cX2_emit_ hk_l0 h) k
def lbX3_forgetOldest_9 (Q : Mem → Prop) (l0 : Nat) (l1 : Nat) (B9 : Int32 → Mem → Prop) (l2 : Int32) (M : Mem) : Prop :=
  ((6 ≤ (l2 + 1) → ∀ M1 : Mem, M1 = xu M (l0 + 1) (5) (nI l1) → ∀ M2 : Mem, M2 = xu M1 l0 1 5 → Q M2) ∧ (¬ 6 ≤ (l2 + 1) → vp_in (l2 + 1) 6 ∧ SHk ((M (l0 + 1) (ix (l2 + 1))).toNatClampNeg) = 9 ∧ vp_in l2 6 ∧ ∀ M4 : Mem, M4 = xu M (l0 + 1) (ix l2) (nI ((M (l0 + 1) (ix (l2 + 1))).toNatClampNeg)) → B9 (l2 + 1) M4))
def NX3_forgetOldest_9 (Q : Mem → Prop) (l0 : Nat) (l1 : Nat) (l2 : Int32) (M : Mem) : Prop := xlp (fun (B : Int32 × Mem → Prop) a => lbX3_forgetOldest_9 Q l0 l1 (fun l2 M => B (l2, M)) a.1 a.2) (l2, M)
theorem nX3_forgetOldest_9 {Q : Mem → Prop} {l0 : Nat} {l1 : Nat} {l2 : Int32} {M : Mem} (hk_l0 : SHk l0 = 3) (hk_l1 : SHk l1 = 9) (h : NX3_forgetOldest_9 Q l0 l1 l2 M) : xX RX3 cX3_forgetOldest 3 none 1 9 [(0, .ref l0), (1, .ref l1), (2, .int l2)] [] M (xQv Q) := by
  obtain ⟨n, h⟩ := h
  have hB9 : ∀ (n : Nat) (l2 : Int32) (M : Mem), xlpn (fun (B : Int32 × Mem → Prop) a => lbX3_forgetOldest_9 Q l0 l1 (fun l2 M => B (l2, M)) a.1 a.2) n (l2, M) → xX RX3 cX3_forgetOldest 3 none 1 9 [(0, .ref l0), (1, .ref l1), (2, .int l2)] [] M (xQv Q) := by
    intro n
    induction n with
    | zero => intro l2 M h; exact False.elim h
    | succ n ih =>
      intro l2 M h
      have hB9 := ih
      have h : lbX3_forgetOldest_9 Q l0 l1 (fun l2 M => xlpn (fun (B : Int32 × Mem → Prop) a => lbX3_forgetOldest_9 Q l0 l1 (fun l2 M => B (l2, M)) a.1 a.2) n (l2, M)) l2 M := h
      unfold lbX3_forgetOldest_9 at h
      refine x_iload_n dX3_forgetOldest_9 rfl 10 rfl ?_
      refine x_iconst dX3_forgetOldest_10 kc_1 11 rfl ?_
      refine x_iadd dX3_forgetOldest_11 12 rfl ?_
      refine x_bipush dX3_forgetOldest_12 kb_6 14 rfl ?_
      refine x_icmp_ge dX3_forgetOldest_14 37 17 rfl rfl (fun hc => ?_) (fun hc => ?_)
      · have h := h.1 hc
        refine x_aload_n dX3_forgetOldest_37 rfl 38 rfl ?_
        refine gf3_0 dX3_forgetOldest_38 41 rfl hk_l0 kw2_45 ?_
        refine x_iconst dX3_forgetOldest_41 kc_5 42 rfl ?_
        refine x_aload_n dX3_forgetOldest_42 rfl 43 rfl ?_
        refine x_aastore dX3_forgetOldest_43 (ly3_0 hk_l0) hk_l1 (by unfold vp_in; decide) 44 rfl (x_mem (fun M1 hM1 => ?_))
        have h := h M1 hM1
        refine x_aload_n dX3_forgetOldest_44 rfl 45 rfl ?_
        refine x_iconst dX3_forgetOldest_45 kc_5 46 rfl ?_
        refine pf3_1 dX3_forgetOldest_46 49 rfl hk_l0 kw2_46 (x_mem (fun M2 hM2 => ?_))
        have h := h M2 hM2
        exact x_vret dX3_forgetOldest_49 h
      · have h := h.2 hc
        refine x_aload_n dX3_forgetOldest_17 rfl 18 rfl ?_
        refine gf3_0 dX3_forgetOldest_18 21 rfl hk_l0 kw2_45 ?_
        refine x_iload_n dX3_forgetOldest_21 rfl 22 rfl ?_
        refine x_aload_n dX3_forgetOldest_22 rfl 23 rfl ?_
        refine gf3_0 dX3_forgetOldest_23 26 rfl hk_l0 kw2_45 ?_
        refine x_iload_n dX3_forgetOldest_26 rfl 27 rfl ?_
        refine x_iconst dX3_forgetOldest_27 kc_1 28 rfl ?_
        refine x_iadd dX3_forgetOldest_28 29 rfl ?_
        obtain ⟨hin, h⟩ := h
        obtain ⟨hw3, h⟩ := h
        refine x_aaload dX3_forgetOldest_29 (ly3_0 hk_l0) hin hw3 30 rfl ?_
        obtain ⟨hin, h⟩ := h
        refine x_aastore dX3_forgetOldest_30 (ly3_0 hk_l0) hw3 hin 31 rfl (x_mem (fun M4 hM4 => ?_))
        have h := h M4 hM4
        refine x_iinc dX3_forgetOldest_31 rfl (congrArg (l2 + ·) kc_1) (Nat.le_of_ble_eq_true rfl) [(0, .ref l0), (1, .ref l1), (2, .int (l2 + 1))] rfl 34 rfl ?_
        refine x_goto dX3_forgetOldest_34 9 rfl ?_
        exact hB9 _ _ h
  exact hB9 n l2 M h
def FX3_forgetOldest (Q : Mem → Prop) (l0 : Nat) (M : Mem) : Prop :=
  SHk ((M (l0 + 1) (0)).toNatClampNeg) = 9 ∧ NX3_forgetOldest_9 Q l0 ((M (l0 + 1) (0)).toNatClampNeg) 0 M
theorem eX3_forgetOldest {Q : Mem → Prop} {l0 : Nat} {M : Mem} (hk_l0 : SHk l0 = 3) (h : FX3_forgetOldest Q l0 M) : xX RX3 cX3_forgetOldest 3 none 1 0 [(0, .ref l0)] [] M (xQv Q) := by
  unfold FX3_forgetOldest at h
  refine x_aload_n dX3_forgetOldest_0 rfl 1 rfl ?_
  refine gf3_0 dX3_forgetOldest_1 4 rfl hk_l0 kw2_45 ?_
  refine x_iconst dX3_forgetOldest_4 kc_0 5 rfl ?_
  obtain ⟨hw5, h⟩ := h
  refine x_aaload dX3_forgetOldest_5 (ly3_0 hk_l0) (by unfold vp_in; decide) hw5 6 rfl ?_
  refine x_astore_n dX3_forgetOldest_6 (Nat.le_of_ble_eq_true rfl) [(0, .ref l0), (1, .ref ((M (l0 + 1) (0)).toNatClampNeg))] rfl 7 rfl ?_
  refine x_iconst dX3_forgetOldest_7 kc_0 8 rfl ?_
  refine x_istore_n dX3_forgetOldest_8 (Nat.le_of_ble_eq_true rfl) [(0, .ref l0), (1, .ref ((M (l0 + 1) (0)).toNatClampNeg)), (2, .int 0)] rfl 9 rfl ?_
  exact nX3_forgetOldest_9 hk_l0 hw5 h
theorem cX3_forgetOldest_ {Q : Mem → Prop} {l0 : Nat} {M : Mem} (hk_l0 : SHk l0 = 3) (h : FX3_forgetOldest Q l0 M) : xM yX3_forgetOldest cX3_forgetOldest 3 none 1 [.ref l0] M (xQv Q) := xM_of (by decide +kernel) (Nat.le_of_ble_eq_true rfl) (eX3_forgetOldest hk_l0 h)
theorem kX3_forgetOldest {own : String} {cc : ByteArray} {nL : Nat} {rt : Option FieldType} {d pc ix : Nat} {L : List (Nat × Value)} {st : List Value} {M : Mem} {Rt : xGt → Array Value → State → Outcome → State → Prop} {Q : Mem → Prop} {l0 : Nat} (hd : decode cc pc = .ok (.invokevirtual ix, 3)) (q : Nat) (hq : pc + 3 = q) (hk_l0 : SHk l0 = 3) (w1 : Cond.methodLink own ix yX3_forgetOldest ∈ xTs) (hr : 1 < d) (hst : (st.map fun v => v.category).sum ≤ 8) (h : FX3_forgetOldest Q l0 M) (k : ∀ (N : Mem), Q N → xX own cc nL rt d q L st N Rt) : xX own cc nL rt d pc L (.ref l0 :: st) M Rt :=
  x_callV_v (n := 0) (As := []) hd q hq hk_l0 (by decide) rfl rfl w1 kw3_23 ks1_3 kw1_10 kw3_24 (by decide +kernel) rfl hr (by decide) hst _ rfl (cX3_forgetOldest_ hk_l0 h) k
def NX3_keep_13 (Q : Mem → Prop) (l0 : Nat) (l1 : Nat) (M : Mem) : Prop :=
  vp_in (M l0 1) 6 ∧ SHk ((M (l0 + 1) (ix (M l0 1))).toNatClampNeg) = 9 ∧ FX9_copyFrom (fun (M2 : Mem) => ∀ M3 : Mem, M3 = xu M2 l0 1 ((M2 l0 1) + 1) → Q M3) ((M (l0 + 1) (ix (M l0 1))).toNatClampNeg) l1 M
theorem nX3_keep_13 {Q : Mem → Prop} {l0 : Nat} {l1 : Nat} {M : Mem} (hk_l0 : SHk l0 = 3) (hk_l1 : SHk l1 = 9) (h : NX3_keep_13 Q l0 l1 M) : xX RX3 cX3_keep 3 none 3 13 [(0, .ref l0), (1, .ref l1)] [] M (xQv Q) := by
  unfold NX3_keep_13 at h
  refine x_aload_n dX3_keep_13 rfl 14 rfl ?_
  refine gf3_0 dX3_keep_14 17 rfl hk_l0 kw2_45 ?_
  refine x_aload_n dX3_keep_17 rfl 18 rfl ?_
  refine gf3_1 dX3_keep_18 21 rfl hk_l0 kw2_46 ?_
  obtain ⟨hin, h⟩ := h
  obtain ⟨hw1, h⟩ := h
  refine x_aaload dX3_keep_21 (ly3_0 hk_l0) hin hw1 22 rfl ?_
  refine x_astore_n dX3_keep_22 (Nat.le_of_ble_eq_true rfl) [(0, .ref l0), (1, .ref l1), (2, .ref ((M (l0 + 1) (ix (M l0 1))).toNatClampNeg))] rfl 23 rfl ?_
  refine x_aload_n dX3_keep_23 rfl 24 rfl ?_
  refine x_ifnull dX3_keep_24 27 rfl ?_
  refine x_aload_n dX3_keep_27 rfl 28 rfl ?_
  refine x_aload_n dX3_keep_28 rfl 29 rfl ?_
  refine kX9_copyFrom dX3_keep_29 32 rfl hw1 hk_l1 kw3_25 (Nat.le_of_ble_eq_true rfl) (Nat.le_of_ble_eq_true rfl) h (fun M2 h => ?_)
  refine x_aload_n dX3_keep_32 rfl 33 rfl ?_
  refine x_dup dX3_keep_33 rfl 34 rfl ?_
  refine gf3_1 dX3_keep_34 37 rfl hk_l0 kw2_46 ?_
  refine x_iconst dX3_keep_37 kc_1 38 rfl ?_
  refine x_iadd dX3_keep_38 39 rfl ?_
  refine pf3_1 dX3_keep_39 42 rfl hk_l0 kw2_46 (x_mem (fun M3 hM3 => ?_))
  have h := h M3 hM3
  exact x_vret dX3_keep_42 h
def FX3_keep (Q : Mem → Prop) (l0 : Nat) (l1 : Nat) (M : Mem) : Prop :=
  (((M l0 1) < 6 → NX3_keep_13 Q l0 l1 M) ∧ (¬ (M l0 1) < 6 → FX3_forgetOldest (fun (M4 : Mem) => NX3_keep_13 Q l0 l1 M4) l0 M))
theorem eX3_keep {Q : Mem → Prop} {l0 : Nat} {l1 : Nat} {M : Mem} (hk_l0 : SHk l0 = 3) (hk_l1 : SHk l1 = 9) (h : FX3_keep Q l0 l1 M) : xX RX3 cX3_keep 3 none 3 0 [(0, .ref l0), (1, .ref l1)] [] M (xQv Q) := by
  unfold FX3_keep at h
  refine x_aload_n dX3_keep_0 rfl 1 rfl ?_
  refine gf3_1 dX3_keep_1 4 rfl hk_l0 kw2_46 ?_
  refine x_bipush dX3_keep_4 kb_6 6 rfl ?_
  refine x_icmp_lt dX3_keep_6 13 9 rfl rfl (fun hc => ?_) (fun hc => ?_)
  · have h := h.1 hc
    exact nX3_keep_13 hk_l0 hk_l1 h
  · have h := h.2 hc
    refine x_aload_n dX3_keep_9 rfl 10 rfl ?_
    refine kX3_forgetOldest dX3_keep_10 13 rfl hk_l0 kw3_21 (Nat.le_of_ble_eq_true rfl) (Nat.le_of_ble_eq_true rfl) h (fun M4 h => ?_)
    exact nX3_keep_13 hk_l0 hk_l1 h
theorem cX3_keep_ {Q : Mem → Prop} {l0 : Nat} {l1 : Nat} {M : Mem} (hk_l0 : SHk l0 = 3) (hk_l1 : SHk l1 = 9) (h : FX3_keep Q l0 l1 M) : xM yX3_keep cX3_keep 3 none 3 [.ref l0, .ref l1] M (xQv Q) := xM_of (by decide +kernel) (Nat.le_of_ble_eq_true rfl) (eX3_keep hk_l0 hk_l1 h)
theorem kX3_keep {own : String} {cc : ByteArray} {nL : Nat} {rt : Option FieldType} {d pc ix : Nat} {L : List (Nat × Value)} {st : List Value} {M : Mem} {Rt : xGt → Array Value → State → Outcome → State → Prop} {Q : Mem → Prop} {l0 : Nat} {l1 : Nat} (hd : decode cc pc = .ok (.invokevirtual ix, 3)) (q : Nat) (hq : pc + 3 = q) (hk_l0 : SHk l0 = 3) (hk_l1 : SHk l1 = 9) (w1 : Cond.methodLink own ix yX3_keep ∈ xTs) (hr : 3 < d) (hst : (st.map fun v => v.category).sum ≤ 8) (h : FX3_keep Q l0 l1 M) (k : ∀ (N : Mem), Q N → xX own cc nL rt d q L st N Rt) : xX own cc nL rt d pc L (.ref l1 :: .ref l0 :: st) M Rt :=
  x_callV_v (n := 1) (As := [.ref l1]) hd q hq hk_l0 (by decide) rfl rfl w1 kw3_18 kw3_19 kw1_10 kw3_20 (by decide +kernel) rfl hr (by decide) hst _ rfl (cX3_keep_ hk_l0 hk_l1 h) k
def FX3_forget (Q : Mem → Prop) (l0 : Nat) (M : Mem) : Prop :=
  ∀ M1 : Mem, M1 = xu M l0 1 0 → Q M1
theorem eX3_forget {Q : Mem → Prop} {l0 : Nat} {M : Mem} (hk_l0 : SHk l0 = 3) (h : FX3_forget Q l0 M) : xX RX3 cX3_forget 1 none 1 0 [(0, .ref l0)] [] M (xQv Q) := by
  unfold FX3_forget at h
  refine x_aload_n dX3_forget_0 rfl 1 rfl ?_
  refine x_iconst dX3_forget_1 kc_0 2 rfl ?_
  refine pf3_1 dX3_forget_2 5 rfl hk_l0 kw2_46 (x_mem (fun M1 hM1 => ?_))
  have h := h M1 hM1
  exact x_vret dX3_forget_5 h
theorem cX3_forget_ {Q : Mem → Prop} {l0 : Nat} {M : Mem} (hk_l0 : SHk l0 = 3) (h : FX3_forget Q l0 M) : xM yX3_forget cX3_forget 1 none 1 [.ref l0] M (xQv Q) := xM_of (by decide +kernel) (Nat.le_of_ble_eq_true rfl) (eX3_forget hk_l0 h)
theorem kX3_forget {own : String} {cc : ByteArray} {nL : Nat} {rt : Option FieldType} {d pc ix : Nat} {L : List (Nat × Value)} {st : List Value} {M : Mem} {Rt : xGt → Array Value → State → Outcome → State → Prop} {Q : Mem → Prop} {l0 : Nat} (hd : decode cc pc = .ok (.invokevirtual ix, 3)) (q : Nat) (hq : pc + 3 = q) (hk_l0 : SHk l0 = 3) (w1 : Cond.methodLink own ix yX3_forget ∈ xTs) (hr : 1 < d) (hst : (st.map fun v => v.category).sum ≤ 8) (h : FX3_forget Q l0 M) (k : ∀ (N : Mem), Q N → xX own cc nL rt d q L st N Rt) : xX own cc nL rt d pc L (.ref l0 :: st) M Rt :=
  x_callV_v (n := 0) (As := []) hd q hq hk_l0 (by decide) rfl rfl w1 kw2_182 kw2_183 kw1_10 kw2_184 (by decide +kernel) rfl hr (by decide) hst _ rfl (cX3_forget_ hk_l0 h) k
def FX3_goBack (Q : Bool → Mem → Prop) (l0 : Nat) (l1 : Nat) (M : Mem) : Prop :=
  ((0 < (M l0 1) → ∀ M1 : Mem, M1 = xu M l0 1 ((M l0 1) - 1) → vp_in (M1 l0 1) 6 ∧ SHk ((M1 (l0 + 1) (ix (M1 l0 1))).toNatClampNeg) = 9 ∧ FX9_copyFrom (fun (M3 : Mem) => Q true M3) l1 ((M1 (l0 + 1) (ix (M1 l0 1))).toNatClampNeg) M1) ∧ (¬ 0 < (M l0 1) → Q false M))
theorem eX3_goBack {Q : Bool → Mem → Prop} {l0 : Nat} {l1 : Nat} {M : Mem} (hk_l0 : SHk l0 = 3) (hk_l1 : SHk l1 = 9) (h : FX3_goBack Q l0 l1 M) : xX RX3 cX3_goBack 3 (some .boolean) 3 0 [(0, .ref l0), (1, .ref l1)] [] M (xQb Q) := by
  unfold FX3_goBack at h
  refine x_aload_n dX3_goBack_0 rfl 1 rfl ?_
  refine gf3_1 dX3_goBack_1 4 rfl hk_l0 kw2_46 ?_
  refine x_if_gt dX3_goBack_4 9 7 rfl rfl (fun hc => ?_) (fun hc => ?_)
  · have h := h.1 hc
    refine x_aload_n dX3_goBack_9 rfl 10 rfl ?_
    refine x_dup dX3_goBack_10 rfl 11 rfl ?_
    refine gf3_1 dX3_goBack_11 14 rfl hk_l0 kw2_46 ?_
    refine x_iconst dX3_goBack_14 kc_1 15 rfl ?_
    refine x_isub dX3_goBack_15 16 rfl ?_
    refine pf3_1 dX3_goBack_16 19 rfl hk_l0 kw2_46 (x_mem (fun M1 hM1 => ?_))
    have h := h M1 hM1
    refine x_aload_n dX3_goBack_19 rfl 20 rfl ?_
    refine gf3_0 dX3_goBack_20 23 rfl hk_l0 kw2_45 ?_
    refine x_aload_n dX3_goBack_23 rfl 24 rfl ?_
    refine gf3_1 dX3_goBack_24 27 rfl hk_l0 kw2_46 ?_
    obtain ⟨hin, h⟩ := h
    obtain ⟨hw2, h⟩ := h
    refine x_aaload dX3_goBack_27 (ly3_0 hk_l0) hin hw2 28 rfl ?_
    refine x_astore_n dX3_goBack_28 (Nat.le_of_ble_eq_true rfl) [(0, .ref l0), (1, .ref l1), (2, .ref ((M1 (l0 + 1) (ix (M1 l0 1))).toNatClampNeg))] rfl 29 rfl ?_
    refine x_aload_n dX3_goBack_29 rfl 30 rfl ?_
    refine x_ifnull dX3_goBack_30 33 rfl ?_
    refine x_aload_n dX3_goBack_33 rfl 34 rfl ?_
    refine x_aload_n dX3_goBack_34 rfl 35 rfl ?_
    refine kX9_copyFrom dX3_goBack_35 38 rfl hk_l1 hw2 kw3_25 (Nat.le_of_ble_eq_true rfl) (Nat.le_of_ble_eq_true rfl) h (fun M3 h => ?_)
    refine x_iconst dX3_goBack_38 kc_1 39 rfl ?_
    exact x_zret (z := true) dX3_goBack_39 h
  · have h := h.2 hc
    refine x_iconst dX3_goBack_7 kc_0 8 rfl ?_
    exact x_zret (z := false) dX3_goBack_8 h
theorem cX3_goBack_ {Q : Bool → Mem → Prop} {l0 : Nat} {l1 : Nat} {M : Mem} (hk_l0 : SHk l0 = 3) (hk_l1 : SHk l1 = 9) (h : FX3_goBack Q l0 l1 M) : xM yX3_goBack cX3_goBack 3 (some .boolean) 3 [.ref l0, .ref l1] M (xQb Q) := xM_of (by decide +kernel) (Nat.le_of_ble_eq_true rfl) (eX3_goBack hk_l0 hk_l1 h)
theorem kX3_goBack {own : String} {cc : ByteArray} {nL : Nat} {rt : Option FieldType} {d pc ix : Nat} {L : List (Nat × Value)} {st : List Value} {M : Mem} {Rt : xGt → Array Value → State → Outcome → State → Prop} {Q : Bool → Mem → Prop} {l0 : Nat} {l1 : Nat} (hd : decode cc pc = .ok (.invokevirtual ix, 3)) (q : Nat) (hq : pc + 3 = q) (hk_l0 : SHk l0 = 3) (hk_l1 : SHk l1 = 9) (w1 : Cond.methodLink own ix yX3_goBack ∈ xTs) (hr : 3 < d) (hst : (st.map fun v => v.category).sum ≤ 8) (h : FX3_goBack Q l0 l1 M) (k : ∀ (r : Bool) (N : Mem), Q r N → xX own cc nL rt d q L (.int (bI r) :: st) N Rt) : xX own cc nL rt d pc L (.ref l1 :: .ref l0 :: st) M Rt :=
  x_callV_b (n := 1) (As := [.ref l1]) hd q hq hk_l0 (by decide) rfl rfl w1 kw5_128 kw5_129 kw1_10 kw5_130 (by decide +kernel) rfl hr (by decide) hst _ rfl (cX3_goBack_ hk_l0 hk_l1 h) k
def FX4_add (Q : Mem → Prop) (l0 : Nat) (l1 : Int32) (l2 : Int32) (l3 : Int32) (l4 : Int32) (M : Mem) : Prop :=
  ((16 ≤ (M l0 4) → Q M) ∧ (¬ 16 ≤ (M l0 4) → vp_in (M l0 4) 16 ∧ ∀ M1 : Mem, M1 = xu M (l0 + 1) (ix (M l0 4)) l1 → vp_in (M1 l0 4) 16 ∧ ∀ M2 : Mem, M2 = xu M1 (l0 + 2) (ix (M1 l0 4)) l2 → vp_in (M2 l0 4) 16 ∧ ∀ M3 : Mem, M3 = xu M2 (l0 + 3) (ix (M2 l0 4)) l3 → vp_in (M3 l0 4) 16 ∧ ∀ M4 : Mem, M4 = xu M3 (l0 + 4) (ix (M3 l0 4)) l4 → ∀ M5 : Mem, M5 = xu M4 l0 4 ((M4 l0 4) + 1) → Q M5))
theorem eX4_add {Q : Mem → Prop} {l0 : Nat} {l1 : Int32} {l2 : Int32} {l3 : Int32} {l4 : Int32} {M : Mem} (hk_l0 : SHk l0 = 4) (h : FX4_add Q l0 l1 l2 l3 l4 M) : xX RX4 cX4_add 5 none 1 0 [(0, .ref l0), (1, .int l1), (2, .int l2), (3, .int l3), (4, .int l4)] [] M (xQv Q) := by
  unfold FX4_add at h
  refine x_aload_n dX4_add_0 rfl 1 rfl ?_
  refine gf4_4 dX4_add_1 4 rfl hk_l0 kw1_197 ?_
  refine x_bipush dX4_add_4 kb_16 6 rfl ?_
  refine x_icmp_ge dX4_add_6 60 9 rfl rfl (fun hc => ?_) (fun hc => ?_)
  · have h := h.1 hc
    exact x_vret dX4_add_60 h
  · have h := h.2 hc
    refine x_aload_n dX4_add_9 rfl 10 rfl ?_
    refine gf4_0 dX4_add_10 13 rfl hk_l0 kw1_193 ?_
    refine x_aload_n dX4_add_13 rfl 14 rfl ?_
    refine gf4_4 dX4_add_14 17 rfl hk_l0 kw1_197 ?_
    refine x_iload_n dX4_add_17 rfl 18 rfl ?_
    obtain ⟨hin, h⟩ := h
    refine x_iastore dX4_add_18 (ly4_0 hk_l0) hin 19 rfl (x_mem (fun M1 hM1 => ?_))
    have h := h M1 hM1
    refine x_aload_n dX4_add_19 rfl 20 rfl ?_
    refine gf4_1 dX4_add_20 23 rfl hk_l0 kw1_194 ?_
    refine x_aload_n dX4_add_23 rfl 24 rfl ?_
    refine gf4_4 dX4_add_24 27 rfl hk_l0 kw1_197 ?_
    refine x_iload_n dX4_add_27 rfl 28 rfl ?_
    obtain ⟨hin, h⟩ := h
    refine x_iastore dX4_add_28 (ly4_1 hk_l0) hin 29 rfl (x_mem (fun M2 hM2 => ?_))
    have h := h M2 hM2
    refine x_aload_n dX4_add_29 rfl 30 rfl ?_
    refine gf4_2 dX4_add_30 33 rfl hk_l0 kw1_195 ?_
    refine x_aload_n dX4_add_33 rfl 34 rfl ?_
    refine gf4_4 dX4_add_34 37 rfl hk_l0 kw1_197 ?_
    refine x_iload_n dX4_add_37 rfl 38 rfl ?_
    obtain ⟨hin, h⟩ := h
    refine x_iastore dX4_add_38 (ly4_2 hk_l0) hin 39 rfl (x_mem (fun M3 hM3 => ?_))
    have h := h M3 hM3
    refine x_aload_n dX4_add_39 rfl 40 rfl ?_
    refine gf4_3 dX4_add_40 43 rfl hk_l0 kw1_196 ?_
    refine x_aload_n dX4_add_43 rfl 44 rfl ?_
    refine gf4_4 dX4_add_44 47 rfl hk_l0 kw1_197 ?_
    refine x_iload dX4_add_47 rfl 49 rfl ?_
    obtain ⟨hin, h⟩ := h
    refine x_iastore dX4_add_49 (ly4_3 hk_l0) hin 50 rfl (x_mem (fun M4 hM4 => ?_))
    have h := h M4 hM4
    refine x_aload_n dX4_add_50 rfl 51 rfl ?_
    refine x_dup dX4_add_51 rfl 52 rfl ?_
    refine gf4_4 dX4_add_52 55 rfl hk_l0 kw1_197 ?_
    refine x_iconst dX4_add_55 kc_1 56 rfl ?_
    refine x_iadd dX4_add_56 57 rfl ?_
    refine pf4_4 dX4_add_57 60 rfl hk_l0 kw1_197 (x_mem (fun M5 hM5 => ?_))
    have h := h M5 hM5
    exact x_vret dX4_add_60 h
theorem cX4_add_ {Q : Mem → Prop} {l0 : Nat} {l1 : Int32} {l2 : Int32} {l3 : Int32} {l4 : Int32} {M : Mem} (hk_l0 : SHk l0 = 4) (h : FX4_add Q l0 l1 l2 l3 l4 M) : xM yX4_add cX4_add 5 none 1 [.ref l0, .int l1, .int l2, .int l3, .int l4] M (xQv Q) := xM_of (by decide +kernel) (Nat.le_of_ble_eq_true rfl) (eX4_add hk_l0 h)
theorem kX4_add {own : String} {cc : ByteArray} {nL : Nat} {rt : Option FieldType} {d pc ix : Nat} {L : List (Nat × Value)} {st : List Value} {M : Mem} {Rt : xGt → Array Value → State → Outcome → State → Prop} {Q : Mem → Prop} {l0 : Nat} {l1 : Int32} {l2 : Int32} {l3 : Int32} {l4 : Int32} (hd : decode cc pc = .ok (.invokevirtual ix, 3)) (q : Nat) (hq : pc + 3 = q) (hk_l0 : SHk l0 = 4) (w1 : Cond.methodLink own ix yX4_add ∈ xTs) (hr : 1 < d) (hst : (st.map fun v => v.category).sum ≤ 8) (h : FX4_add Q l0 l1 l2 l3 l4 M) (k : ∀ (N : Mem), Q N → xX own cc nL rt d q L st N Rt) : xX own cc nL rt d pc L (.int l4 :: .int l3 :: .int l2 :: .int l1 :: .ref l0 :: st) M Rt :=
  x_callV_v (n := 4) (As := [.int l1, .int l2, .int l3, .int l4]) hd q hq hk_l0 (by decide) rfl rfl w1 kw4_117 kw4_118 kw1_7 kw4_119 (by decide +kernel) rfl hr (by decide) hst _ rfl (cX4_add_ hk_l0 h) k
def FX5_forgetFault (Q : Mem → Prop) (l0 : Nat) (M : Mem) : Prop :=
  ∀ M1 : Mem, M1 = xu M l0 10 0 → ∀ M2 : Mem, M2 = xu M1 l0 11 (-1) → Q M2
theorem eX5_forgetFault {Q : Mem → Prop} {l0 : Nat} {M : Mem} (hk_l0 : SHk l0 = 5) (h : FX5_forgetFault Q l0 M) : xX RX5 cX5_forgetFault 1 none 1 0 [(0, .ref l0)] [] M (xQv Q) := by
  unfold FX5_forgetFault at h
  refine x_aload_n dX5_forgetFault_0 rfl 1 rfl ?_
  refine x_iconst dX5_forgetFault_1 kc_0 2 rfl ?_
  refine pf5_10 dX5_forgetFault_2 5 rfl hk_l0 kw2_104 (x_mem (fun M1 hM1 => ?_))
  have h := h M1 hM1
  refine x_aload_n dX5_forgetFault_5 rfl 6 rfl ?_
  refine x_iconst dX5_forgetFault_6 kc_m1 7 rfl ?_
  refine pf5_11 dX5_forgetFault_7 10 rfl hk_l0 kw2_106 (x_mem (fun M2 hM2 => ?_))
  have h := h M2 hM2
  exact x_vret dX5_forgetFault_10 h
theorem cX5_forgetFault_ {Q : Mem → Prop} {l0 : Nat} {M : Mem} (hk_l0 : SHk l0 = 5) (h : FX5_forgetFault Q l0 M) : xM yX5_forgetFault cX5_forgetFault 1 none 1 [.ref l0] M (xQv Q) := xM_of (by decide +kernel) (Nat.le_of_ble_eq_true rfl) (eX5_forgetFault hk_l0 h)
theorem kX5_forgetFault {own : String} {cc : ByteArray} {nL : Nat} {rt : Option FieldType} {d pc ix : Nat} {L : List (Nat × Value)} {st : List Value} {M : Mem} {Rt : xGt → Array Value → State → Outcome → State → Prop} {Q : Mem → Prop} {l0 : Nat} (hd : decode cc pc = .ok (.invokevirtual ix, 3)) (q : Nat) (hq : pc + 3 = q) (hk_l0 : SHk l0 = 5) (w1 : Cond.methodLink own ix yX5_forgetFault ∈ xTs) (hr : 1 < d) (hst : (st.map fun v => v.category).sum ≤ 8) (h : FX5_forgetFault Q l0 M) (k : ∀ (N : Mem), Q N → xX own cc nL rt d q L st N Rt) : xX own cc nL rt d pc L (.ref l0 :: st) M Rt :=
  x_callV_v (n := 0) (As := []) hd q hq hk_l0 (by decide) rfl rfl w1 kw3_186 kw3_187 kw1_11 kw3_188 (by decide +kernel) rfl hr (by decide) hst _ rfl (cX5_forgetFault_ hk_l0 h) k
def FX5_kind (Q : Int32 → Prop) (l0 : Nat) (M : Mem) : Prop :=
  (((M (l0 + 19) 3) ≤ (M l0 5) → Q 200) ∧ (¬ (M (l0 + 19) 3) ≤ (M l0 5) → ((401 ≤ (M l0 5) → Q 200) ∧ (¬ 401 ≤ (M l0 5) → vp_in (M l0 5) 401 ∧ Q (M ((l0 + 19) + 1) (ix (M l0 5)))))))
theorem eX5_kind {Q : Int32 → Prop} {l0 : Nat} {M : Mem} (hk_l0 : SHk l0 = 5) (h : FX5_kind Q l0 M) : xX RX5 cX5_kind 1 (some .int) 1 0 [(0, .ref l0)] [] M (xQi (xP M Q)) := by
  unfold FX5_kind at h
  refine x_aload_n dX5_kind_0 rfl 1 rfl ?_
  refine gf5_5 dX5_kind_1 4 rfl hk_l0 kw2_99 ?_
  refine x_aload_n dX5_kind_4 rfl 5 rfl ?_
  refine gf5_4 dX5_kind_5 8 rfl hk_l0 kw2_98 ?_
  refine gf8_3 dX5_kind_8 11 rfl (ly5_4 hk_l0).1 kw2_80 ?_
  refine x_icmp_ge dX5_kind_11 44 14 rfl rfl (fun hc => ?_) (fun hc => ?_)
  · have h := h.1 hc
    refine x_sipush dX5_kind_44 kh_200 47 rfl ?_
    exact x_iret dX5_kind_47 ⟨rfl, h⟩
  · have h := h.2 hc
    refine x_aload_n dX5_kind_14 rfl 15 rfl ?_
    refine gf5_5 dX5_kind_15 18 rfl hk_l0 kw2_99 ?_
    refine x_aload_n dX5_kind_18 rfl 19 rfl ?_
    refine gf5_4 dX5_kind_19 22 rfl hk_l0 kw2_98 ?_
    refine gf8_0 dX5_kind_22 25 rfl (ly5_4 hk_l0).1 kw2_74 ?_
    refine x_alen (n := 401) dX5_kind_25 (ly8_0 (ly5_4 hk_l0).1) (by decide) 26 rfl ?_
    refine x_icmp_ge dX5_kind_26 44 29 rfl rfl (fun hc => ?_) (fun hc => ?_)
    · have h := h.1 hc
      refine x_sipush dX5_kind_44 kh_200 47 rfl ?_
      exact x_iret dX5_kind_47 ⟨rfl, h⟩
    · have h := h.2 hc
      refine x_aload_n dX5_kind_29 rfl 30 rfl ?_
      refine gf5_4 dX5_kind_30 33 rfl hk_l0 kw2_98 ?_
      refine gf8_0 dX5_kind_33 36 rfl (ly5_4 hk_l0).1 kw2_74 ?_
      refine x_aload_n dX5_kind_36 rfl 37 rfl ?_
      refine gf5_5 dX5_kind_37 40 rfl hk_l0 kw2_99 ?_
      obtain ⟨hin, h⟩ := h
      refine x_iaload dX5_kind_40 (ly8_0 (ly5_4 hk_l0).1) hin 41 rfl ?_
      refine x_goto dX5_kind_41 47 rfl ?_
      exact x_iret dX5_kind_47 ⟨rfl, h⟩
theorem cX5_kind_ {Q : Int32 → Prop} {l0 : Nat} {M : Mem} (hk_l0 : SHk l0 = 5) (h : FX5_kind Q l0 M) : xM yX5_kind cX5_kind 1 (some .int) 1 [.ref l0] M (xQi (xP M Q)) := xM_of (by decide +kernel) (Nat.le_of_ble_eq_true rfl) (eX5_kind hk_l0 h)
theorem kX5_kind {own : String} {cc : ByteArray} {nL : Nat} {rt : Option FieldType} {d pc ix : Nat} {L : List (Nat × Value)} {st : List Value} {M : Mem} {Rt : xGt → Array Value → State → Outcome → State → Prop} {Q : Int32 → Prop} {l0 : Nat} (hd : decode cc pc = .ok (.invokevirtual ix, 3)) (q : Nat) (hq : pc + 3 = q) (hk_l0 : SHk l0 = 5) (w1 : Cond.methodLink own ix yX5_kind ∈ xTs) (hr : 1 < d) (hst : (st.map fun v => v.category).sum ≤ 8) (h : FX5_kind Q l0 M) (k : ∀ (r : Int32), Q r → xX own cc nL rt d q L (.int r :: st) M Rt) : xX own cc nL rt d pc L (.ref l0 :: st) M Rt :=
  x_callV_i (n := 0) (As := []) hd q hq hk_l0 (by decide) rfl rfl w1 kw4_42 ks1_13 kw1_11 kw4_43 (by decide +kernel) rfl hr (by decide) hst _ rfl (cX5_kind_ hk_l0 h) (fun r N hN => by obtain ⟨rfl, hN⟩ := hN; exact k r hN)
def FX5_isWord (Q : Bool → Prop) (l0 : Nat) (l1 : Int32) (M : Mem) : Prop :=
  FX5_kind (fun (r1 : Int32) => ((¬ r1 = (300 + l1) → Q false) ∧ (r1 = (300 + l1) → Q true))) l0 M
theorem eX5_isWord {Q : Bool → Prop} {l0 : Nat} {l1 : Int32} {M : Mem} (hk_l0 : SHk l0 = 5) (h : FX5_isWord Q l0 l1 M) : xX RX5 cX5_isWord 2 (some .boolean) 2 0 [(0, .ref l0), (1, .int l1)] [] M (xQb (xP M Q)) := by
  unfold FX5_isWord at h
  refine x_aload_n dX5_isWord_0 rfl 1 rfl ?_
  refine kX5_kind dX5_isWord_1 4 rfl hk_l0 kw4_40 (Nat.le_of_ble_eq_true rfl) (Nat.le_of_ble_eq_true rfl) h (fun r1 h => ?_)
  refine x_sipush dX5_isWord_4 kh_300 7 rfl ?_
  refine x_iload_n dX5_isWord_7 rfl 8 rfl ?_
  refine x_iadd dX5_isWord_8 9 rfl ?_
  refine x_icmp_ne dX5_isWord_9 16 12 rfl rfl (fun hc => ?_) (fun hc => ?_)
  · have h := h.1 hc
    refine x_iconst dX5_isWord_16 kc_0 17 rfl ?_
    exact x_zret (z := false) dX5_isWord_17 ⟨rfl, h⟩
  · have h := h.2 hc
    refine x_iconst dX5_isWord_12 kc_1 13 rfl ?_
    refine x_goto dX5_isWord_13 17 rfl ?_
    exact x_zret (z := true) dX5_isWord_17 ⟨rfl, h⟩
theorem cX5_isWord_ {Q : Bool → Prop} {l0 : Nat} {l1 : Int32} {M : Mem} (hk_l0 : SHk l0 = 5) (h : FX5_isWord Q l0 l1 M) : xM yX5_isWord cX5_isWord 2 (some .boolean) 2 [.ref l0, .int l1] M (xQb (xP M Q)) := xM_of (by decide +kernel) (Nat.le_of_ble_eq_true rfl) (eX5_isWord hk_l0 h)
theorem kX5_isWord {own : String} {cc : ByteArray} {nL : Nat} {rt : Option FieldType} {d pc ix : Nat} {L : List (Nat × Value)} {st : List Value} {M : Mem} {Rt : xGt → Array Value → State → Outcome → State → Prop} {Q : Bool → Prop} {l0 : Nat} {l1 : Int32} (hd : decode cc pc = .ok (.invokevirtual ix, 3)) (q : Nat) (hq : pc + 3 = q) (hk_l0 : SHk l0 = 5) (w1 : Cond.methodLink own ix yX5_isWord ∈ xTs) (hr : 2 < d) (hst : (st.map fun v => v.category).sum ≤ 8) (h : FX5_isWord Q l0 l1 M) (k : ∀ (r : Bool), Q r → xX own cc nL rt d q L (.int (bI r) :: st) M Rt) : xX own cc nL rt d pc L (.int l1 :: .ref l0 :: st) M Rt :=
  x_callV_b (n := 1) (As := [.int l1]) hd q hq hk_l0 (by decide) rfl rfl w1 kw4_50 ks1_15 kw1_11 kw4_51 (by decide +kernel) rfl hr (by decide) hst _ rfl (cX5_isWord_ hk_l0 h) (fun r N hN => by obtain ⟨rfl, hN⟩ := hN; exact k r hN)
def NX5_refuse_51 (Q : Bool → Mem → Prop) (s0 : Nat) (s1 : Int32) (M : Mem) : Prop :=
  ∀ M1 : Mem, M1 = xu M s0 11 s1 → Q false M1
theorem nX5_refuse_51 {Q : Bool → Mem → Prop} {s0 : Nat} {s1 : Int32} {M : Mem} (hk_s0 : SHk s0 = 5) (h : NX5_refuse_51 Q s0 s1 M) : xX RX5 cX5_refuse 2 (some .boolean) 1 51 [] [.int s1, .ref s0] M (xQb Q) := by
  unfold NX5_refuse_51 at h
  refine pf5_11 dX5_refuse_51 54 rfl hk_s0 kw2_106 (x_mem (fun M1 hM1 => ?_))
  have h := h M1 hM1
  refine x_iconst dX5_refuse_54 kc_0 55 rfl ?_
  exact x_zret (z := false) dX5_refuse_55 h
def NX5_refuse_50 (Q : Bool → Mem → Prop) (s0 : Nat) (M : Mem) : Prop :=
  NX5_refuse_51 Q s0 (-1) M
theorem nX5_refuse_50 {Q : Bool → Mem → Prop} {s0 : Nat} {M : Mem} (hk_s0 : SHk s0 = 5) (h : NX5_refuse_50 Q s0 M) : xX RX5 cX5_refuse 2 (some .boolean) 1 50 [] [.ref s0] M (xQb Q) := by
  unfold NX5_refuse_50 at h
  refine x_iconst dX5_refuse_50 kc_m1 51 rfl ?_
  exact nX5_refuse_51 hk_s0 h
def FX5_refuse (Q : Bool → Mem → Prop) (l0 : Nat) (l1 : Int32) (M : Mem) : Prop :=
  ∀ M2 : Mem, M2 = xu M l0 10 l1 → (((M2 (l0 + 19) 3) ≤ (M2 l0 5) → NX5_refuse_50 Q l0 M2) ∧ (¬ (M2 (l0 + 19) 3) ≤ (M2 l0 5) → ((401 ≤ (M2 l0 5) → NX5_refuse_50 Q l0 M2) ∧ (¬ 401 ≤ (M2 l0 5) → vp_in (M2 l0 5) 401 ∧ NX5_refuse_51 Q l0 (M2 ((l0 + 19) + 3) (ix (M2 l0 5))) M2))))
theorem eX5_refuse {Q : Bool → Mem → Prop} {l0 : Nat} {l1 : Int32} {M : Mem} (hk_l0 : SHk l0 = 5) (h : FX5_refuse Q l0 l1 M) : xX RX5 cX5_refuse 2 (some .boolean) 1 0 [(0, .ref l0), (1, .int l1)] [] M (xQb Q) := by
  unfold FX5_refuse at h
  refine x_aload_n dX5_refuse_0 rfl 1 rfl ?_
  refine x_iload_n dX5_refuse_1 rfl 2 rfl ?_
  refine pf5_10 dX5_refuse_2 5 rfl hk_l0 kw2_104 (x_mem (fun M2 hM2 => ?_))
  have h := h M2 hM2
  refine x_aload_n dX5_refuse_5 rfl 6 rfl ?_
  refine x_aload_n dX5_refuse_6 rfl 7 rfl ?_
  refine gf5_5 dX5_refuse_7 10 rfl hk_l0 kw2_99 ?_
  refine x_aload_n dX5_refuse_10 rfl 11 rfl ?_
  refine gf5_4 dX5_refuse_11 14 rfl hk_l0 kw2_98 ?_
  refine gf8_3 dX5_refuse_14 17 rfl (ly5_4 hk_l0).1 kw2_80 ?_
  refine x_icmp_ge dX5_refuse_17 50 20 rfl rfl (fun hc => ?_) (fun hc => ?_)
  · have h := h.1 hc
    refine x_weak [] [] rfl ?_
    exact nX5_refuse_50 hk_l0 h
  · have h := h.2 hc
    refine x_aload_n dX5_refuse_20 rfl 21 rfl ?_
    refine gf5_5 dX5_refuse_21 24 rfl hk_l0 kw2_99 ?_
    refine x_aload_n dX5_refuse_24 rfl 25 rfl ?_
    refine gf5_4 dX5_refuse_25 28 rfl hk_l0 kw2_98 ?_
    refine gf8_2 dX5_refuse_28 31 rfl (ly5_4 hk_l0).1 kw2_78 ?_
    refine x_alen (n := 401) dX5_refuse_31 (ly8_2 (ly5_4 hk_l0).1) (by decide) 32 rfl ?_
    refine x_icmp_ge dX5_refuse_32 50 35 rfl rfl (fun hc => ?_) (fun hc => ?_)
    · have h := h.1 hc
      refine x_weak [] [] rfl ?_
      exact nX5_refuse_50 hk_l0 h
    · have h := h.2 hc
      refine x_aload_n dX5_refuse_35 rfl 36 rfl ?_
      refine gf5_4 dX5_refuse_36 39 rfl hk_l0 kw2_98 ?_
      refine gf8_2 dX5_refuse_39 42 rfl (ly5_4 hk_l0).1 kw2_78 ?_
      refine x_aload_n dX5_refuse_42 rfl 43 rfl ?_
      refine gf5_5 dX5_refuse_43 46 rfl hk_l0 kw2_99 ?_
      obtain ⟨hin, h⟩ := h
      refine x_iaload dX5_refuse_46 (ly8_2 (ly5_4 hk_l0).1) hin 47 rfl ?_
      refine x_goto dX5_refuse_47 51 rfl ?_
      refine x_weak [] [] rfl ?_
      exact nX5_refuse_51 hk_l0 h
theorem cX5_refuse_ {Q : Bool → Mem → Prop} {l0 : Nat} {l1 : Int32} {M : Mem} (hk_l0 : SHk l0 = 5) (h : FX5_refuse Q l0 l1 M) : xM yX5_refuse cX5_refuse 2 (some .boolean) 1 [.ref l0, .int l1] M (xQb Q) := xM_of (by decide +kernel) (Nat.le_of_ble_eq_true rfl) (eX5_refuse hk_l0 h)
theorem kX5_refuse {own : String} {cc : ByteArray} {nL : Nat} {rt : Option FieldType} {d pc ix : Nat} {L : List (Nat × Value)} {st : List Value} {M : Mem} {Rt : xGt → Array Value → State → Outcome → State → Prop} {Q : Bool → Mem → Prop} {l0 : Nat} {l1 : Int32} (hd : decode cc pc = .ok (.invokevirtual ix, 3)) (q : Nat) (hq : pc + 3 = q) (hk_l0 : SHk l0 = 5) (w1 : Cond.methodLink own ix yX5_refuse ∈ xTs) (hr : 1 < d) (hst : (st.map fun v => v.category).sum ≤ 8) (h : FX5_refuse Q l0 l1 M) (k : ∀ (r : Bool) (N : Mem), Q r N → xX own cc nL rt d q L (.int (bI r) :: st) N Rt) : xX own cc nL rt d pc L (.int l1 :: .ref l0 :: st) M Rt :=
  x_callV_b (n := 1) (As := [.int l1]) hd q hq hk_l0 (by decide) rfl rfl w1 kw4_58 ks2_1 kw1_11 kw4_59 (by decide +kernel) rfl hr (by decide) hst _ rfl (cX5_refuse_ hk_l0 h) k
def FX5_begin (Q : Bool → Mem → Prop) (l0 : Nat) (l1 : Int32) (M : Mem) : Prop :=
  FX5_isWord (fun (r1 : Bool) => ((r1 = true → (((M l0 7) < 16 → ∀ M2 : Mem, M2 = xu M l0 5 ((M l0 5) + 1) → Q true M2) ∧ (¬ (M l0 7) < 16 → FX5_refuse (fun (r4 : Bool) (M3 : Mem) => Q r4 M3) l0 3 M))) ∧ (r1 = false → FX5_refuse (fun (r6 : Bool) (M5 : Mem) => Q r6 M5) l0 1 M))) l0 l1 M
theorem eX5_begin {Q : Bool → Mem → Prop} {l0 : Nat} {l1 : Int32} {M : Mem} (hk_l0 : SHk l0 = 5) (h : FX5_begin Q l0 l1 M) : xX RX5 cX5_begin 2 (some .boolean) 3 0 [(0, .ref l0), (1, .int l1)] [] M (xQb Q) := by
  unfold FX5_begin at h
  refine x_aload_n dX5_begin_0 rfl 1 rfl ?_
  refine x_iload_n dX5_begin_1 rfl 2 rfl ?_
  refine kX5_isWord dX5_begin_2 5 rfl hk_l0 kw4_48 (Nat.le_of_ble_eq_true rfl) (Nat.le_of_ble_eq_true rfl) h (fun r1 h => ?_)
  refine x_if_ne_b dX5_begin_5 14 8 rfl rfl (fun hc => ?_) (fun hc => ?_)
  · have h := h.1 hc
    refine x_aload_n dX5_begin_14 rfl 15 rfl ?_
    refine gf5_7 dX5_begin_15 18 rfl hk_l0 kw2_101 ?_
    refine x_bipush dX5_begin_18 kb_16 20 rfl ?_
    refine x_icmp_lt dX5_begin_20 29 23 rfl rfl (fun hc => ?_) (fun hc => ?_)
    · have h := h.1 hc
      refine x_aload_n dX5_begin_29 rfl 30 rfl ?_
      refine x_dup dX5_begin_30 rfl 31 rfl ?_
      refine gf5_5 dX5_begin_31 34 rfl hk_l0 kw2_99 ?_
      refine x_iconst dX5_begin_34 kc_1 35 rfl ?_
      refine x_iadd dX5_begin_35 36 rfl ?_
      refine pf5_5 dX5_begin_36 39 rfl hk_l0 kw2_99 (x_mem (fun M2 hM2 => ?_))
      have h := h M2 hM2
      refine x_iconst dX5_begin_39 kc_1 40 rfl ?_
      exact x_zret (z := true) dX5_begin_40 h
    · have h := h.2 hc
      refine x_aload_n dX5_begin_23 rfl 24 rfl ?_
      refine x_iconst dX5_begin_24 kc_3 25 rfl ?_
      refine kX5_refuse dX5_begin_25 28 rfl hk_l0 kw4_56 (Nat.le_of_ble_eq_true rfl) (Nat.le_of_ble_eq_true rfl) h (fun r4 M3 h => ?_)
      exact x_zret dX5_begin_28 h
  · have h := h.2 hc
    refine x_aload_n dX5_begin_8 rfl 9 rfl ?_
    refine x_iconst dX5_begin_9 kc_1 10 rfl ?_
    refine kX5_refuse dX5_begin_10 13 rfl hk_l0 kw4_56 (Nat.le_of_ble_eq_true rfl) (Nat.le_of_ble_eq_true rfl) h (fun r6 M5 h => ?_)
    exact x_zret dX5_begin_13 h
theorem cX5_begin_ {Q : Bool → Mem → Prop} {l0 : Nat} {l1 : Int32} {M : Mem} (hk_l0 : SHk l0 = 5) (h : FX5_begin Q l0 l1 M) : xM yX5_begin cX5_begin 2 (some .boolean) 3 [.ref l0, .int l1] M (xQb Q) := xM_of (by decide +kernel) (Nat.le_of_ble_eq_true rfl) (eX5_begin hk_l0 h)
theorem kX5_begin {own : String} {cc : ByteArray} {nL : Nat} {rt : Option FieldType} {d pc ix : Nat} {L : List (Nat × Value)} {st : List Value} {M : Mem} {Rt : xGt → Array Value → State → Outcome → State → Prop} {Q : Bool → Mem → Prop} {l0 : Nat} {l1 : Int32} (hd : decode cc pc = .ok (.invokevirtual ix, 3)) (q : Nat) (hq : pc + 3 = q) (hk_l0 : SHk l0 = 5) (w1 : Cond.methodLink own ix yX5_begin ∈ xTs) (hr : 3 < d) (hst : (st.map fun v => v.category).sum ≤ 8) (h : FX5_begin Q l0 l1 M) (k : ∀ (r : Bool) (N : Mem), Q r N → xX own cc nL rt d q L (.int (bI r) :: st) N Rt) : xX own cc nL rt d pc L (.int l1 :: .ref l0 :: st) M Rt :=
  x_callV_b (n := 1) (As := [.int l1]) hd q hq hk_l0 (by decide) rfl rfl w1 kw4_54 ks2_0 kw1_11 kw4_55 (by decide +kernel) rfl hr (by decide) hst _ rfl (cX5_begin_ hk_l0 h) k
def FX5_numberHere (Q : Int32 → Prop) (l0 : Nat) (M : Mem) : Prop :=
  (((M (l0 + 19) 3) ≤ (M l0 5) → Q (-1)) ∧ (¬ (M (l0 + 19) 3) ≤ (M l0 5) → ((401 ≤ (M l0 5) → Q (-1)) ∧ (¬ 401 ≤ (M l0 5) → vp_in (M l0 5) 401 ∧ Q (M ((l0 + 19) + 2) (ix (M l0 5)))))))
theorem eX5_numberHere {Q : Int32 → Prop} {l0 : Nat} {M : Mem} (hk_l0 : SHk l0 = 5) (h : FX5_numberHere Q l0 M) : xX RX5 cX5_numberHere 1 (some .int) 1 0 [(0, .ref l0)] [] M (xQi (xP M Q)) := by
  unfold FX5_numberHere at h
  refine x_aload_n dX5_numberHere_0 rfl 1 rfl ?_
  refine gf5_5 dX5_numberHere_1 4 rfl hk_l0 kw2_99 ?_
  refine x_aload_n dX5_numberHere_4 rfl 5 rfl ?_
  refine gf5_4 dX5_numberHere_5 8 rfl hk_l0 kw2_98 ?_
  refine gf8_3 dX5_numberHere_8 11 rfl (ly5_4 hk_l0).1 kw2_80 ?_
  refine x_icmp_ge dX5_numberHere_11 44 14 rfl rfl (fun hc => ?_) (fun hc => ?_)
  · have h := h.1 hc
    refine x_iconst dX5_numberHere_44 kc_m1 45 rfl ?_
    exact x_iret dX5_numberHere_45 ⟨rfl, h⟩
  · have h := h.2 hc
    refine x_aload_n dX5_numberHere_14 rfl 15 rfl ?_
    refine gf5_5 dX5_numberHere_15 18 rfl hk_l0 kw2_99 ?_
    refine x_aload_n dX5_numberHere_18 rfl 19 rfl ?_
    refine gf5_4 dX5_numberHere_19 22 rfl hk_l0 kw2_98 ?_
    refine gf8_1 dX5_numberHere_22 25 rfl (ly5_4 hk_l0).1 kw2_76 ?_
    refine x_alen (n := 401) dX5_numberHere_25 (ly8_1 (ly5_4 hk_l0).1) (by decide) 26 rfl ?_
    refine x_icmp_ge dX5_numberHere_26 44 29 rfl rfl (fun hc => ?_) (fun hc => ?_)
    · have h := h.1 hc
      refine x_iconst dX5_numberHere_44 kc_m1 45 rfl ?_
      exact x_iret dX5_numberHere_45 ⟨rfl, h⟩
    · have h := h.2 hc
      refine x_aload_n dX5_numberHere_29 rfl 30 rfl ?_
      refine gf5_4 dX5_numberHere_30 33 rfl hk_l0 kw2_98 ?_
      refine gf8_1 dX5_numberHere_33 36 rfl (ly5_4 hk_l0).1 kw2_76 ?_
      refine x_aload_n dX5_numberHere_36 rfl 37 rfl ?_
      refine gf5_5 dX5_numberHere_37 40 rfl hk_l0 kw2_99 ?_
      obtain ⟨hin, h⟩ := h
      refine x_iaload dX5_numberHere_40 (ly8_1 (ly5_4 hk_l0).1) hin 41 rfl ?_
      refine x_goto dX5_numberHere_41 45 rfl ?_
      exact x_iret dX5_numberHere_45 ⟨rfl, h⟩
theorem cX5_numberHere_ {Q : Int32 → Prop} {l0 : Nat} {M : Mem} (hk_l0 : SHk l0 = 5) (h : FX5_numberHere Q l0 M) : xM yX5_numberHere cX5_numberHere 1 (some .int) 1 [.ref l0] M (xQi (xP M Q)) := xM_of (by decide +kernel) (Nat.le_of_ble_eq_true rfl) (eX5_numberHere hk_l0 h)
theorem kX5_numberHere {own : String} {cc : ByteArray} {nL : Nat} {rt : Option FieldType} {d pc ix : Nat} {L : List (Nat × Value)} {st : List Value} {M : Mem} {Rt : xGt → Array Value → State → Outcome → State → Prop} {Q : Int32 → Prop} {l0 : Nat} (hd : decode cc pc = .ok (.invokevirtual ix, 3)) (q : Nat) (hq : pc + 3 = q) (hk_l0 : SHk l0 = 5) (w1 : Cond.methodLink own ix yX5_numberHere ∈ xTs) (hr : 1 < d) (hst : (st.map fun v => v.category).sum ≤ 8) (h : FX5_numberHere Q l0 M) (k : ∀ (r : Int32), Q r → xX own cc nL rt d q L (.int r :: st) M Rt) : xX own cc nL rt d pc L (.ref l0 :: st) M Rt :=
  x_callV_i (n := 0) (As := []) hd q hq hk_l0 (by decide) rfl rfl w1 kw4_74 ks2_4 kw1_11 kw4_75 (by decide +kernel) rfl hr (by decide) hst _ rfl (cX5_numberHere_ hk_l0 h) (fun r N hN => by obtain ⟨rfl, hN⟩ := hN; exact k r hN)
def NX5_number_40 (Q : Bool → Mem → Prop) (l0 : Nat) (M : Mem) : Prop :=
  FX5_refuse (fun (r2 : Bool) (M1 : Mem) => Q r2 M1) l0 2 M
theorem nX5_number_40 {Q : Bool → Mem → Prop} {l0 : Nat} {M : Mem} (hk_l0 : SHk l0 = 5) (h : NX5_number_40 Q l0 M) : xX RX5 cX5_number 3 (some .boolean) 2 40 [(0, .ref l0)] [] M (xQb Q) := by
  unfold NX5_number_40 at h
  refine x_aload_n dX5_number_40 rfl 41 rfl ?_
  refine x_iconst dX5_number_41 kc_2 42 rfl ?_
  refine kX5_refuse dX5_number_42 45 rfl hk_l0 kw4_56 (Nat.le_of_ble_eq_true rfl) (Nat.le_of_ble_eq_true rfl) h (fun r2 M1 h => ?_)
  exact x_zret dX5_number_45 h
def FX5_number (Q : Bool → Mem → Prop) (l0 : Nat) (l1 : Int32) (l2 : Int32) (M : Mem) : Prop :=
  FX5_kind (fun (r3 : Int32) => ((r3 = 201 → FX5_numberHere (fun (r4 : Int32) => ∀ M5 : Mem, M5 = xu M l0 6 r4 → (((M5 l0 6) < l1 → NX5_number_40 Q l0 M5) ∧ (¬ (M5 l0 6) < l1 → (((M5 l0 6) ≤ l2 → ∀ M6 : Mem, M6 = xu M5 l0 5 ((M5 l0 5) + 1) → Q true M6) ∧ (¬ (M5 l0 6) ≤ l2 → NX5_number_40 Q l0 M5))))) l0 M) ∧ (¬ r3 = 201 → FX5_refuse (fun (r8 : Bool) (M7 : Mem) => Q r8 M7) l0 1 M))) l0 M
theorem eX5_number {Q : Bool → Mem → Prop} {l0 : Nat} {l1 : Int32} {l2 : Int32} {M : Mem} (hk_l0 : SHk l0 = 5) (h : FX5_number Q l0 l1 l2 M) : xX RX5 cX5_number 3 (some .boolean) 2 0 [(0, .ref l0), (1, .int l1), (2, .int l2)] [] M (xQb Q) := by
  unfold FX5_number at h
  refine x_aload_n dX5_number_0 rfl 1 rfl ?_
  refine kX5_kind dX5_number_1 4 rfl hk_l0 kw4_40 (Nat.le_of_ble_eq_true rfl) (Nat.le_of_ble_eq_true rfl) h (fun r3 h => ?_)
  refine x_sipush dX5_number_4 kh_201 7 rfl ?_
  refine x_icmp_eq dX5_number_7 16 10 rfl rfl (fun hc => ?_) (fun hc => ?_)
  · have h := h.1 hc
    refine x_aload_n dX5_number_16 rfl 17 rfl ?_
    refine x_aload_n dX5_number_17 rfl 18 rfl ?_
    refine kX5_numberHere dX5_number_18 21 rfl hk_l0 kw4_72 (Nat.le_of_ble_eq_true rfl) (Nat.le_of_ble_eq_true rfl) h (fun r4 h => ?_)
    refine pf5_6 dX5_number_21 24 rfl hk_l0 kw2_100 (x_mem (fun M5 hM5 => ?_))
    have h := h M5 hM5
    refine x_aload_n dX5_number_24 rfl 25 rfl ?_
    refine gf5_6 dX5_number_25 28 rfl hk_l0 kw2_100 ?_
    refine x_iload_n dX5_number_28 rfl 29 rfl ?_
    refine x_icmp_lt dX5_number_29 40 32 rfl rfl (fun hc => ?_) (fun hc => ?_)
    · have h := h.1 hc
      refine x_weak [(0, .ref l0)] [0] rfl ?_
      exact nX5_number_40 hk_l0 h
    · have h := h.2 hc
      refine x_aload_n dX5_number_32 rfl 33 rfl ?_
      refine gf5_6 dX5_number_33 36 rfl hk_l0 kw2_100 ?_
      refine x_iload_n dX5_number_36 rfl 37 rfl ?_
      refine x_icmp_le dX5_number_37 46 40 rfl rfl (fun hc => ?_) (fun hc => ?_)
      · have h := h.1 hc
        refine x_aload_n dX5_number_46 rfl 47 rfl ?_
        refine x_dup dX5_number_47 rfl 48 rfl ?_
        refine gf5_5 dX5_number_48 51 rfl hk_l0 kw2_99 ?_
        refine x_iconst dX5_number_51 kc_1 52 rfl ?_
        refine x_iadd dX5_number_52 53 rfl ?_
        refine pf5_5 dX5_number_53 56 rfl hk_l0 kw2_99 (x_mem (fun M6 hM6 => ?_))
        have h := h M6 hM6
        refine x_iconst dX5_number_56 kc_1 57 rfl ?_
        exact x_zret (z := true) dX5_number_57 h
      · have h := h.2 hc
        refine x_weak [(0, .ref l0)] [0] rfl ?_
        exact nX5_number_40 hk_l0 h
  · have h := h.2 hc
    refine x_aload_n dX5_number_10 rfl 11 rfl ?_
    refine x_iconst dX5_number_11 kc_1 12 rfl ?_
    refine kX5_refuse dX5_number_12 15 rfl hk_l0 kw4_56 (Nat.le_of_ble_eq_true rfl) (Nat.le_of_ble_eq_true rfl) h (fun r8 M7 h => ?_)
    exact x_zret dX5_number_15 h
theorem cX5_number_ {Q : Bool → Mem → Prop} {l0 : Nat} {l1 : Int32} {l2 : Int32} {M : Mem} (hk_l0 : SHk l0 = 5) (h : FX5_number Q l0 l1 l2 M) : xM yX5_number cX5_number 3 (some .boolean) 2 [.ref l0, .int l1, .int l2] M (xQb Q) := xM_of (by decide +kernel) (Nat.le_of_ble_eq_true rfl) (eX5_number hk_l0 h)
theorem kX5_number {own : String} {cc : ByteArray} {nL : Nat} {rt : Option FieldType} {d pc ix : Nat} {L : List (Nat × Value)} {st : List Value} {M : Mem} {Rt : xGt → Array Value → State → Outcome → State → Prop} {Q : Bool → Mem → Prop} {l0 : Nat} {l1 : Int32} {l2 : Int32} (hd : decode cc pc = .ok (.invokevirtual ix, 3)) (q : Nat) (hq : pc + 3 = q) (hk_l0 : SHk l0 = 5) (w1 : Cond.methodLink own ix yX5_number ∈ xTs) (hr : 2 < d) (hst : (st.map fun v => v.category).sum ≤ 8) (h : FX5_number Q l0 l1 l2 M) (k : ∀ (r : Bool) (N : Mem), Q r N → xX own cc nL rt d q L (.int (bI r) :: st) N Rt) : xX own cc nL rt d pc L (.int l2 :: .int l1 :: .ref l0 :: st) M Rt :=
  x_callV_b (n := 2) (As := [.int l1, .int l2]) hd q hq hk_l0 (by decide) rfl rfl w1 kw4_82 ks2_5 kw1_11 kw4_83 (by decide +kernel) rfl hr (by decide) hst _ rfl (cX5_number_ hk_l0 h) k
def NX5_unit_65 (Q : Bool → Mem → Prop) (l0 : Nat) (s0 : Nat) (s1 : Int32) (M : Mem) : Prop :=
  FX2_emit (fun (M1 : Mem) => ∀ M2 : Mem, M2 = xu M1 l0 5 ((M1 l0 5) + 1) → Q true M2) s0 s1 M
theorem nX5_unit_65 {Q : Bool → Mem → Prop} {l0 : Nat} {s0 : Nat} {s1 : Int32} {M : Mem} (hk_l0 : SHk l0 = 5) (hk_s0 : SHk s0 = 2) (h : NX5_unit_65 Q l0 s0 s1 M) : xX RX5 cX5_unit 3 (some .boolean) 2 65 [(0, .ref l0)] [.int s1, .ref s0] M (xQb Q) := by
  unfold NX5_unit_65 at h
  refine kX2_emit dX5_unit_65 68 rfl hk_s0 kw4_76 (Nat.le_of_ble_eq_true rfl) (Nat.le_of_ble_eq_true rfl) h (fun M1 h => ?_)
  refine x_aload_n dX5_unit_68 rfl 69 rfl ?_
  refine x_dup dX5_unit_69 rfl 70 rfl ?_
  refine gf5_5 dX5_unit_70 73 rfl hk_l0 kw2_99 ?_
  refine x_iconst dX5_unit_73 kc_1 74 rfl ?_
  refine x_iadd dX5_unit_74 75 rfl ?_
  refine pf5_5 dX5_unit_75 78 rfl hk_l0 kw2_99 (x_mem (fun M2 hM2 => ?_))
  have h := h M2 hM2
  refine x_iconst dX5_unit_78 kc_1 79 rfl ?_
  exact x_zret (z := true) dX5_unit_79 h
def NX5_unit_42 (Q : Bool → Mem → Prop) (l0 : Nat) (l1 : Int32) (l2 : Int32) (M : Mem) : Prop :=
  ((l2 = 0 → FX5_numberHere (fun (r3 : Int32) => NX5_unit_65 Q l0 (l0 + 1) r3 M) l0 M) ∧ (¬ l2 = 0 → NX5_unit_65 Q l0 (l0 + 1) ((-100) - (l1 - 300)) M))
theorem nX5_unit_42 {Q : Bool → Mem → Prop} {l0 : Nat} {l1 : Int32} {l2 : Int32} {M : Mem} (hk_l0 : SHk l0 = 5) (h : NX5_unit_42 Q l0 l1 l2 M) : xX RX5 cX5_unit 3 (some .boolean) 2 42 [(0, .ref l0), (1, .int l1), (2, .int l2)] [] M (xQb Q) := by
  unfold NX5_unit_42 at h
  refine x_aload_n dX5_unit_42 rfl 43 rfl ?_
  refine gf5_0 dX5_unit_43 46 rfl hk_l0 kw2_90 ?_
  refine x_iload_n dX5_unit_46 rfl 47 rfl ?_
  refine x_if_eq dX5_unit_47 61 50 rfl rfl (fun hc => ?_) (fun hc => ?_)
  · have h := h.1 hc
    refine x_aload_n dX5_unit_61 rfl 62 rfl ?_
    refine kX5_numberHere dX5_unit_62 65 rfl hk_l0 kw4_72 (Nat.le_of_ble_eq_true rfl) (Nat.le_of_ble_eq_true rfl) h (fun r3 h => ?_)
    refine x_weak [(0, .ref l0)] [0] rfl ?_
    exact nX5_unit_65 hk_l0 (ly5_0 hk_l0).1 h
  · have h := h.2 hc
    refine x_bipush dX5_unit_50 kb_m100 52 rfl ?_
    refine x_iload_n dX5_unit_52 rfl 53 rfl ?_
    refine x_sipush dX5_unit_53 kh_300 56 rfl ?_
    refine x_isub dX5_unit_56 57 rfl ?_
    refine x_isub dX5_unit_57 58 rfl ?_
    refine x_goto dX5_unit_58 65 rfl ?_
    refine x_weak [(0, .ref l0)] [0] rfl ?_
    exact nX5_unit_65 hk_l0 (ly5_0 hk_l0).1 h
def NX5_unit_24 (Q : Bool → Mem → Prop) (l0 : Nat) (l1 : Int32) (s0 : Int32) (M : Mem) : Prop :=
  ((¬ s0 = 0 → NX5_unit_42 Q l0 l1 s0 M) ∧ (s0 = 0 → ((l1 = 201 → NX5_unit_42 Q l0 l1 s0 M) ∧ (¬ l1 = 201 → FX5_refuse (fun (r5 : Bool) (M4 : Mem) => Q r5 M4) l0 1 M))))
theorem nX5_unit_24 {Q : Bool → Mem → Prop} {l0 : Nat} {l1 : Int32} {s0 : Int32} {M : Mem} (hk_l0 : SHk l0 = 5) (h : NX5_unit_24 Q l0 l1 s0 M) : xX RX5 cX5_unit 3 (some .boolean) 2 24 [(0, .ref l0), (1, .int l1)] [.int s0] M (xQb Q) := by
  unfold NX5_unit_24 at h
  refine x_istore_n dX5_unit_24 (Nat.le_of_ble_eq_true rfl) [(0, .ref l0), (1, .int l1), (2, .int s0)] rfl 25 rfl ?_
  refine x_iload_n dX5_unit_25 rfl 26 rfl ?_
  refine x_if_ne dX5_unit_26 42 29 rfl rfl (fun hc => ?_) (fun hc => ?_)
  · have h := h.1 hc
    exact nX5_unit_42 hk_l0 h
  · have h := h.2 hc
    refine x_iload_n dX5_unit_29 rfl 30 rfl ?_
    refine x_sipush dX5_unit_30 kh_201 33 rfl ?_
    refine x_icmp_eq dX5_unit_33 42 36 rfl rfl (fun hc => ?_) (fun hc => ?_)
    · have h := h.1 hc
      exact nX5_unit_42 hk_l0 h
    · have h := h.2 hc
      refine x_aload_n dX5_unit_36 rfl 37 rfl ?_
      refine x_iconst dX5_unit_37 kc_1 38 rfl ?_
      refine kX5_refuse dX5_unit_38 41 rfl hk_l0 kw4_56 (Nat.le_of_ble_eq_true rfl) (Nat.le_of_ble_eq_true rfl) h (fun r5 M4 h => ?_)
      exact x_zret dX5_unit_41 h
def NX5_unit_23 (Q : Bool → Mem → Prop) (l0 : Nat) (l1 : Int32) (M : Mem) : Prop :=
  NX5_unit_24 Q l0 l1 0 M
theorem nX5_unit_23 {Q : Bool → Mem → Prop} {l0 : Nat} {l1 : Int32} {M : Mem} (hk_l0 : SHk l0 = 5) (h : NX5_unit_23 Q l0 l1 M) : xX RX5 cX5_unit 3 (some .boolean) 2 23 [(0, .ref l0), (1, .int l1)] [] M (xQb Q) := by
  unfold NX5_unit_23 at h
  refine x_iconst dX5_unit_23 kc_0 24 rfl ?_
  exact nX5_unit_24 hk_l0 h
def FX5_unit (Q : Bool → Mem → Prop) (l0 : Nat) (M : Mem) : Prop :=
  FX5_kind (fun (r6 : Int32) => ((r6 < 307 → NX5_unit_23 Q l0 r6 M) ∧ (¬ r6 < 307 → ((315 < r6 → NX5_unit_23 Q l0 r6 M) ∧ (¬ 315 < r6 → NX5_unit_24 Q l0 r6 1 M))))) l0 M
theorem eX5_unit {Q : Bool → Mem → Prop} {l0 : Nat} {M : Mem} (hk_l0 : SHk l0 = 5) (h : FX5_unit Q l0 M) : xX RX5 cX5_unit 3 (some .boolean) 2 0 [(0, .ref l0)] [] M (xQb Q) := by
  unfold FX5_unit at h
  refine x_aload_n dX5_unit_0 rfl 1 rfl ?_
  refine kX5_kind dX5_unit_1 4 rfl hk_l0 kw4_40 (Nat.le_of_ble_eq_true rfl) (Nat.le_of_ble_eq_true rfl) h (fun r6 h => ?_)
  refine x_istore_n dX5_unit_4 (Nat.le_of_ble_eq_true rfl) [(0, .ref l0), (1, .int r6)] rfl 5 rfl ?_
  refine x_iload_n dX5_unit_5 rfl 6 rfl ?_
  refine x_sipush dX5_unit_6 kh_307 9 rfl ?_
  refine x_icmp_lt dX5_unit_9 23 12 rfl rfl (fun hc => ?_) (fun hc => ?_)
  · have h := h.1 hc
    exact nX5_unit_23 hk_l0 h
  · have h := h.2 hc
    refine x_iload_n dX5_unit_12 rfl 13 rfl ?_
    refine x_sipush dX5_unit_13 kh_315 16 rfl ?_
    refine x_icmp_gt dX5_unit_16 23 19 rfl rfl (fun hc => ?_) (fun hc => ?_)
    · have h := h.1 hc
      exact nX5_unit_23 hk_l0 h
    · have h := h.2 hc
      refine x_iconst dX5_unit_19 kc_1 20 rfl ?_
      refine x_goto dX5_unit_20 24 rfl ?_
      exact nX5_unit_24 hk_l0 h
theorem cX5_unit_ {Q : Bool → Mem → Prop} {l0 : Nat} {M : Mem} (hk_l0 : SHk l0 = 5) (h : FX5_unit Q l0 M) : xM yX5_unit cX5_unit 3 (some .boolean) 2 [.ref l0] M (xQb Q) := xM_of (by decide +kernel) (Nat.le_of_ble_eq_true rfl) (eX5_unit hk_l0 h)
theorem kX5_unit {own : String} {cc : ByteArray} {nL : Nat} {rt : Option FieldType} {d pc ix : Nat} {L : List (Nat × Value)} {st : List Value} {M : Mem} {Rt : xGt → Array Value → State → Outcome → State → Prop} {Q : Bool → Mem → Prop} {l0 : Nat} (hd : decode cc pc = .ok (.invokevirtual ix, 3)) (q : Nat) (hq : pc + 3 = q) (hk_l0 : SHk l0 = 5) (w1 : Cond.methodLink own ix yX5_unit ∈ xTs) (hr : 2 < d) (hst : (st.map fun v => v.category).sum ≤ 8) (h : FX5_unit Q l0 M) (k : ∀ (r : Bool) (N : Mem), Q r N → xX own cc nL rt d q L (.int (bI r) :: st) N Rt) : xX own cc nL rt d pc L (.ref l0 :: st) M Rt :=
  x_callV_b (n := 0) (As := []) hd q hq hk_l0 (by decide) rfl rfl w1 kw4_70 ks2_3 kw1_11 kw4_71 (by decide +kernel) rfl hr (by decide) hst _ rfl (cX5_unit_ hk_l0 h) k
def NX5_sum_114 (Q : Bool → Mem → Prop) (B13 : Int32 → Int32 → Mem → Prop) (l0 : Nat) (l1 : Int32) (l2 : Int32) (l3 : Int32) (M : Mem) : Prop :=
  ((¬ l3 = 47 → ((¬ l3 = 42 → ((¬ l3 = 43 → B13 (-2) (l2 + 1) M) ∧ (l3 = 43 → B13 (-1) (l2 + 1) M))) ∧ (l3 = 42 → FX2_emit (fun (M1 : Mem) => B13 l1 (l2 + 1) M1) (l0 + 1) (-3) M))) ∧ (l3 = 47 → FX2_emit (fun (M2 : Mem) => FX2_emit (fun (M3 : Mem) => B13 l1 (l2 + 1) M3) (l0 + 1) (-4) M2) (l0 + 1) (M l0 6) M))
theorem nX5_sum_114 {Q : Bool → Mem → Prop} {B13 : Int32 → Int32 → Mem → Prop} {l0 : Nat} {l1 : Int32} {l2 : Int32} {l3 : Int32} {M : Mem} (hB13 : ∀ (l1 : Int32) (l2 : Int32) (M : Mem), B13 l1 l2 M → xX RX5 cX5_sum 4 (some .boolean) 3 13 [(0, .ref l0), (1, .int l1), (2, .int l2)] [] M (xQb Q)) (hk_l0 : SHk l0 = 5) (h : NX5_sum_114 Q B13 l0 l1 l2 l3 M) : xX RX5 cX5_sum 4 (some .boolean) 3 114 [(0, .ref l0), (1, .int l1), (2, .int l2), (3, .int l3)] [] M (xQb Q) := by
  unfold NX5_sum_114 at h
  refine x_iload_n dX5_sum_114 rfl 115 rfl ?_
  refine x_bipush dX5_sum_115 kb_47 117 rfl ?_
  refine x_icmp_ne dX5_sum_117 143 120 rfl rfl (fun hc => ?_) (fun hc => ?_)
  · have h := h.1 hc
    refine x_iload_n dX5_sum_143 rfl 144 rfl ?_
    refine x_bipush dX5_sum_144 kb_42 146 rfl ?_
    refine x_icmp_ne dX5_sum_146 161 149 rfl rfl (fun hc => ?_) (fun hc => ?_)
    · have h := h.1 hc
      refine x_iload_n dX5_sum_161 rfl 162 rfl ?_
      refine x_bipush dX5_sum_162 kb_43 164 rfl ?_
      refine x_icmp_ne dX5_sum_164 171 167 rfl rfl (fun hc => ?_) (fun hc => ?_)
      · have h := h.1 hc
        refine x_bipush dX5_sum_171 kb_m2 173 rfl ?_
        refine x_istore_n dX5_sum_173 (Nat.le_of_ble_eq_true rfl) [(0, .ref l0), (1, .int (-2)), (2, .int l2), (3, .int l3)] rfl 174 rfl ?_
        refine x_iinc dX5_sum_174 rfl (congrArg (l2 + ·) kc_1) (Nat.le_of_ble_eq_true rfl) [(0, .ref l0), (1, .int (-2)), (2, .int (l2 + 1)), (3, .int l3)] rfl 177 rfl ?_
        refine x_goto dX5_sum_177 13 rfl ?_
        refine x_weak [(0, .ref l0), (1, .int (-2)), (2, .int (l2 + 1))] [0, 1, 2] rfl ?_
        exact hB13 _ _ _ h
      · have h := h.2 hc
        refine x_iconst dX5_sum_167 kc_m1 168 rfl ?_
        refine x_goto dX5_sum_168 173 rfl ?_
        refine x_istore_n dX5_sum_173 (Nat.le_of_ble_eq_true rfl) [(0, .ref l0), (1, .int (-1)), (2, .int l2), (3, .int l3)] rfl 174 rfl ?_
        refine x_iinc dX5_sum_174 rfl (congrArg (l2 + ·) kc_1) (Nat.le_of_ble_eq_true rfl) [(0, .ref l0), (1, .int (-1)), (2, .int (l2 + 1)), (3, .int l3)] rfl 177 rfl ?_
        refine x_goto dX5_sum_177 13 rfl ?_
        refine x_weak [(0, .ref l0), (1, .int (-1)), (2, .int (l2 + 1))] [0, 1, 2] rfl ?_
        exact hB13 _ _ _ h
    · have h := h.2 hc
      refine x_aload_n dX5_sum_149 rfl 150 rfl ?_
      refine gf5_0 dX5_sum_150 153 rfl hk_l0 kw2_90 ?_
      refine x_bipush dX5_sum_153 kb_m3 155 rfl ?_
      refine kX2_emit dX5_sum_155 158 rfl (ly5_0 hk_l0).1 kw4_76 (Nat.le_of_ble_eq_true rfl) (Nat.le_of_ble_eq_true rfl) h (fun M1 h => ?_)
      refine x_goto dX5_sum_158 174 rfl ?_
      refine x_iinc dX5_sum_174 rfl (congrArg (l2 + ·) kc_1) (Nat.le_of_ble_eq_true rfl) [(0, .ref l0), (1, .int l1), (2, .int (l2 + 1)), (3, .int l3)] rfl 177 rfl ?_
      refine x_goto dX5_sum_177 13 rfl ?_
      refine x_weak [(0, .ref l0), (1, .int l1), (2, .int (l2 + 1))] [0, 1, 2] rfl ?_
      exact hB13 _ _ _ h
  · have h := h.2 hc
    refine x_aload_n dX5_sum_120 rfl 121 rfl ?_
    refine gf5_0 dX5_sum_121 124 rfl hk_l0 kw2_90 ?_
    refine x_aload_n dX5_sum_124 rfl 125 rfl ?_
    refine gf5_6 dX5_sum_125 128 rfl hk_l0 kw2_100 ?_
    refine kX2_emit dX5_sum_128 131 rfl (ly5_0 hk_l0).1 kw4_76 (Nat.le_of_ble_eq_true rfl) (Nat.le_of_ble_eq_true rfl) h (fun M2 h => ?_)
    refine x_aload_n dX5_sum_131 rfl 132 rfl ?_
    refine gf5_0 dX5_sum_132 135 rfl hk_l0 kw2_90 ?_
    refine x_bipush dX5_sum_135 kb_m4 137 rfl ?_
    refine kX2_emit dX5_sum_137 140 rfl (ly5_0 hk_l0).1 kw4_76 (Nat.le_of_ble_eq_true rfl) (Nat.le_of_ble_eq_true rfl) h (fun M3 h => ?_)
    refine x_goto dX5_sum_140 174 rfl ?_
    refine x_iinc dX5_sum_174 rfl (congrArg (l2 + ·) kc_1) (Nat.le_of_ble_eq_true rfl) [(0, .ref l0), (1, .int l1), (2, .int (l2 + 1)), (3, .int l3)] rfl 177 rfl ?_
    refine x_goto dX5_sum_177 13 rfl ?_
    refine x_weak [(0, .ref l0), (1, .int l1), (2, .int (l2 + 1))] [0, 1, 2] rfl ?_
    exact hB13 _ _ _ h
def NX5_sum_75 (Q : Bool → Mem → Prop) (B13 : Int32 → Int32 → Mem → Prop) (l0 : Nat) (l1 : Int32) (l2 : Int32) (l3 : Int32) (M : Mem) : Prop :=
  ∀ M4 : Mem, M4 = xu M l0 5 ((M l0 5) + 1) → ((¬ l3 = 47 → FX5_unit (fun (r6 : Bool) (M5 : Mem) => ((r6 = true → NX5_sum_114 Q B13 l0 l1 l2 l3 M5) ∧ (r6 = false → Q false M5))) l0 M4) ∧ (l3 = 47 → FX5_number (fun (r8 : Bool) (M7 : Mem) => ((r8 = true → NX5_sum_114 Q B13 l0 l1 l2 l3 M7) ∧ (r8 = false → Q false M7))) l0 1 9999 M4))
theorem nX5_sum_75 {Q : Bool → Mem → Prop} {B13 : Int32 → Int32 → Mem → Prop} {l0 : Nat} {l1 : Int32} {l2 : Int32} {l3 : Int32} {M : Mem} (hB13 : ∀ (l1 : Int32) (l2 : Int32) (M : Mem), B13 l1 l2 M → xX RX5 cX5_sum 4 (some .boolean) 3 13 [(0, .ref l0), (1, .int l1), (2, .int l2)] [] M (xQb Q)) (hk_l0 : SHk l0 = 5) (h : NX5_sum_75 Q B13 l0 l1 l2 l3 M) : xX RX5 cX5_sum 4 (some .boolean) 3 75 [(0, .ref l0), (1, .int l1), (2, .int l2), (3, .int l3)] [] M (xQb Q) := by
  unfold NX5_sum_75 at h
  refine x_aload_n dX5_sum_75 rfl 76 rfl ?_
  refine x_dup dX5_sum_76 rfl 77 rfl ?_
  refine gf5_5 dX5_sum_77 80 rfl hk_l0 kw2_99 ?_
  refine x_iconst dX5_sum_80 kc_1 81 rfl ?_
  refine x_iadd dX5_sum_81 82 rfl ?_
  refine pf5_5 dX5_sum_82 85 rfl hk_l0 kw2_99 (x_mem (fun M4 hM4 => ?_))
  have h := h M4 hM4
  refine x_iload_n dX5_sum_85 rfl 86 rfl ?_
  refine x_bipush dX5_sum_86 kb_47 88 rfl ?_
  refine x_icmp_ne dX5_sum_88 105 91 rfl rfl (fun hc => ?_) (fun hc => ?_)
  · have h := h.1 hc
    refine x_aload_n dX5_sum_105 rfl 106 rfl ?_
    refine kX5_unit dX5_sum_106 109 rfl hk_l0 kw4_68 (Nat.le_of_ble_eq_true rfl) (Nat.le_of_ble_eq_true rfl) h (fun r6 M5 h => ?_)
    refine x_if_ne_b dX5_sum_109 114 112 rfl rfl (fun hc => ?_) (fun hc => ?_)
    · have h := h.1 hc
      exact nX5_sum_114 hB13 hk_l0 h
    · have h := h.2 hc
      refine x_iconst dX5_sum_112 kc_0 113 rfl ?_
      exact x_zret (z := false) dX5_sum_113 h
  · have h := h.2 hc
    refine x_aload_n dX5_sum_91 rfl 92 rfl ?_
    refine x_iconst dX5_sum_92 kc_1 93 rfl ?_
    refine x_sipush dX5_sum_93 kh_9999 96 rfl ?_
    refine kX5_number dX5_sum_96 99 rfl hk_l0 kw4_80 (Nat.le_of_ble_eq_true rfl) (Nat.le_of_ble_eq_true rfl) h (fun r8 M7 h => ?_)
    refine x_if_ne_b dX5_sum_99 114 102 rfl rfl (fun hc => ?_) (fun hc => ?_)
    · have h := h.1 hc
      exact nX5_sum_114 hB13 hk_l0 h
    · have h := h.2 hc
      refine x_goto dX5_sum_102 112 rfl ?_
      refine x_iconst dX5_sum_112 kc_0 113 rfl ?_
      exact x_zret (z := false) dX5_sum_113 h
def NX5_sum_49 (Q : Bool → Mem → Prop) (B13 : Int32 → Int32 → Mem → Prop) (l0 : Nat) (l1 : Int32) (l2 : Int32) (l3 : Int32) (M : Mem) : Prop :=
  ((l3 = 42 → NX5_sum_75 Q B13 l0 l1 l2 l3 M) ∧ (¬ l3 = 42 → ((l3 = 47 → NX5_sum_75 Q B13 l0 l1 l2 l3 M) ∧ (¬ l3 = 47 → ((l3 = 43 → NX5_sum_75 Q B13 l0 l1 l2 l3 M) ∧ (¬ l3 = 43 → ((l3 = 45 → NX5_sum_75 Q B13 l0 l1 l2 l3 M) ∧ (¬ l3 = 45 → Q true M))))))))
theorem nX5_sum_49 {Q : Bool → Mem → Prop} {B13 : Int32 → Int32 → Mem → Prop} {l0 : Nat} {l1 : Int32} {l2 : Int32} {l3 : Int32} {M : Mem} (hB13 : ∀ (l1 : Int32) (l2 : Int32) (M : Mem), B13 l1 l2 M → xX RX5 cX5_sum 4 (some .boolean) 3 13 [(0, .ref l0), (1, .int l1), (2, .int l2)] [] M (xQb Q)) (hk_l0 : SHk l0 = 5) (h : NX5_sum_49 Q B13 l0 l1 l2 l3 M) : xX RX5 cX5_sum 4 (some .boolean) 3 49 [(0, .ref l0), (1, .int l1), (2, .int l2), (3, .int l3)] [] M (xQb Q) := by
  unfold NX5_sum_49 at h
  refine x_iload_n dX5_sum_49 rfl 50 rfl ?_
  refine x_bipush dX5_sum_50 kb_42 52 rfl ?_
  refine x_icmp_eq dX5_sum_52 75 55 rfl rfl (fun hc => ?_) (fun hc => ?_)
  · have h := h.1 hc
    exact nX5_sum_75 hB13 hk_l0 h
  · have h := h.2 hc
    refine x_iload_n dX5_sum_55 rfl 56 rfl ?_
    refine x_bipush dX5_sum_56 kb_47 58 rfl ?_
    refine x_icmp_eq dX5_sum_58 75 61 rfl rfl (fun hc => ?_) (fun hc => ?_)
    · have h := h.1 hc
      exact nX5_sum_75 hB13 hk_l0 h
    · have h := h.2 hc
      refine x_iload_n dX5_sum_61 rfl 62 rfl ?_
      refine x_bipush dX5_sum_62 kb_43 64 rfl ?_
      refine x_icmp_eq dX5_sum_64 75 67 rfl rfl (fun hc => ?_) (fun hc => ?_)
      · have h := h.1 hc
        exact nX5_sum_75 hB13 hk_l0 h
      · have h := h.2 hc
        refine x_iload_n dX5_sum_67 rfl 68 rfl ?_
        refine x_bipush dX5_sum_68 kb_45 70 rfl ?_
        refine x_icmp_eq dX5_sum_70 75 73 rfl rfl (fun hc => ?_) (fun hc => ?_)
        · have h := h.1 hc
          exact nX5_sum_75 hB13 hk_l0 h
        · have h := h.2 hc
          refine x_iconst dX5_sum_73 kc_1 74 rfl ?_
          exact x_zret (z := true) dX5_sum_74 h
def lbX5_sum_13 (Q : Bool → Mem → Prop) (l0 : Nat) (B13 : Int32 → Int32 → Mem → Prop) (l1 : Int32) (l2 : Int32) (M : Mem) : Prop :=
  ((400 ≤ l2 → Q true M) ∧ (¬ 400 ≤ l2 → FX5_kind (fun (r9 : Int32) => ((r9 = 42 → NX5_sum_49 Q B13 l0 l1 l2 r9 M) ∧ (¬ r9 = 42 → ((r9 = 47 → NX5_sum_49 Q B13 l0 l1 l2 r9 M) ∧ (¬ r9 = 47 → ((l1 = 0 → NX5_sum_49 Q B13 l0 l1 l2 r9 M) ∧ (¬ l1 = 0 → FX2_emit (fun (M10 : Mem) => NX5_sum_49 Q B13 l0 l1 l2 r9 M10) (l0 + 1) l1 M))))))) l0 M))
def NX5_sum_13 (Q : Bool → Mem → Prop) (l0 : Nat) (l1 : Int32) (l2 : Int32) (M : Mem) : Prop := xlp (fun (B : Int32 × Int32 × Mem → Prop) a => lbX5_sum_13 Q l0 (fun l1 l2 M => B (l1, l2, M)) a.1 a.2.1 a.2.2) (l1, l2, M)
theorem nX5_sum_13 {Q : Bool → Mem → Prop} {l0 : Nat} {l1 : Int32} {l2 : Int32} {M : Mem} (hk_l0 : SHk l0 = 5) (h : NX5_sum_13 Q l0 l1 l2 M) : xX RX5 cX5_sum 4 (some .boolean) 3 13 [(0, .ref l0), (1, .int l1), (2, .int l2)] [] M (xQb Q) := by
  obtain ⟨n, h⟩ := h
  have hB13 : ∀ (n : Nat) (l1 : Int32) (l2 : Int32) (M : Mem), xlpn (fun (B : Int32 × Int32 × Mem → Prop) a => lbX5_sum_13 Q l0 (fun l1 l2 M => B (l1, l2, M)) a.1 a.2.1 a.2.2) n (l1, l2, M) → xX RX5 cX5_sum 4 (some .boolean) 3 13 [(0, .ref l0), (1, .int l1), (2, .int l2)] [] M (xQb Q) := by
    intro n
    induction n with
    | zero => intro l1 l2 M h; exact False.elim h
    | succ n ih =>
      intro l1 l2 M h
      have hB13 := ih
      have h : lbX5_sum_13 Q l0 (fun l1 l2 M => xlpn (fun (B : Int32 × Int32 × Mem → Prop) a => lbX5_sum_13 Q l0 (fun l1 l2 M => B (l1, l2, M)) a.1 a.2.1 a.2.2) n (l1, l2, M)) l1 l2 M := h
      unfold lbX5_sum_13 at h
      refine x_iload_n dX5_sum_13 rfl 14 rfl ?_
      refine x_sipush dX5_sum_14 kh_400 17 rfl ?_
      refine x_icmp_ge dX5_sum_17 180 20 rfl rfl (fun hc => ?_) (fun hc => ?_)
      · have h := h.1 hc
        refine x_iconst dX5_sum_180 kc_1 181 rfl ?_
        exact x_zret (z := true) dX5_sum_181 h
      · have h := h.2 hc
        refine x_aload_n dX5_sum_20 rfl 21 rfl ?_
        refine kX5_kind dX5_sum_21 24 rfl hk_l0 kw4_40 (Nat.le_of_ble_eq_true rfl) (Nat.le_of_ble_eq_true rfl) h (fun r9 h => ?_)
        refine x_istore_n dX5_sum_24 (Nat.le_of_ble_eq_true rfl) [(0, .ref l0), (1, .int l1), (2, .int l2), (3, .int r9)] rfl 25 rfl ?_
        refine x_iload_n dX5_sum_25 rfl 26 rfl ?_
        refine x_bipush dX5_sum_26 kb_42 28 rfl ?_
        refine x_icmp_eq dX5_sum_28 49 31 rfl rfl (fun hc => ?_) (fun hc => ?_)
        · have h := h.1 hc
          exact nX5_sum_49 hB13 hk_l0 h
        · have h := h.2 hc
          refine x_iload_n dX5_sum_31 rfl 32 rfl ?_
          refine x_bipush dX5_sum_32 kb_47 34 rfl ?_
          refine x_icmp_eq dX5_sum_34 49 37 rfl rfl (fun hc => ?_) (fun hc => ?_)
          · have h := h.1 hc
            exact nX5_sum_49 hB13 hk_l0 h
          · have h := h.2 hc
            refine x_iload_n dX5_sum_37 rfl 38 rfl ?_
            refine x_if_eq dX5_sum_38 49 41 rfl rfl (fun hc => ?_) (fun hc => ?_)
            · have h := h.1 hc
              exact nX5_sum_49 hB13 hk_l0 h
            · have h := h.2 hc
              refine x_aload_n dX5_sum_41 rfl 42 rfl ?_
              refine gf5_0 dX5_sum_42 45 rfl hk_l0 kw2_90 ?_
              refine x_iload_n dX5_sum_45 rfl 46 rfl ?_
              refine kX2_emit dX5_sum_46 49 rfl (ly5_0 hk_l0).1 kw4_76 (Nat.le_of_ble_eq_true rfl) (Nat.le_of_ble_eq_true rfl) h (fun M10 h => ?_)
              exact nX5_sum_49 hB13 hk_l0 h
  exact hB13 n l1 l2 M h
def FX5_sum (Q : Bool → Mem → Prop) (l0 : Nat) (M : Mem) : Prop :=
  FX5_unit (fun (r12 : Bool) (M11 : Mem) => ((r12 = true → NX5_sum_13 Q l0 0 0 M11) ∧ (r12 = false → Q false M11))) l0 M
theorem eX5_sum {Q : Bool → Mem → Prop} {l0 : Nat} {M : Mem} (hk_l0 : SHk l0 = 5) (h : FX5_sum Q l0 M) : xX RX5 cX5_sum 4 (some .boolean) 3 0 [(0, .ref l0)] [] M (xQb Q) := by
  unfold FX5_sum at h
  refine x_aload_n dX5_sum_0 rfl 1 rfl ?_
  refine kX5_unit dX5_sum_1 4 rfl hk_l0 kw4_68 (Nat.le_of_ble_eq_true rfl) (Nat.le_of_ble_eq_true rfl) h (fun r12 M11 h => ?_)
  refine x_if_ne_b dX5_sum_4 9 7 rfl rfl (fun hc => ?_) (fun hc => ?_)
  · have h := h.1 hc
    refine x_iconst dX5_sum_9 kc_0 10 rfl ?_
    refine x_istore_n dX5_sum_10 (Nat.le_of_ble_eq_true rfl) [(0, .ref l0), (1, .int 0)] rfl 11 rfl ?_
    refine x_iconst dX5_sum_11 kc_0 12 rfl ?_
    refine x_istore_n dX5_sum_12 (Nat.le_of_ble_eq_true rfl) [(0, .ref l0), (1, .int 0), (2, .int 0)] rfl 13 rfl ?_
    exact nX5_sum_13 hk_l0 h
  · have h := h.2 hc
    refine x_iconst dX5_sum_7 kc_0 8 rfl ?_
    exact x_zret (z := false) dX5_sum_8 h
theorem cX5_sum_ {Q : Bool → Mem → Prop} {l0 : Nat} {M : Mem} (hk_l0 : SHk l0 = 5) (h : FX5_sum Q l0 M) : xM yX5_sum cX5_sum 4 (some .boolean) 3 [.ref l0] M (xQb Q) := xM_of (by decide +kernel) (Nat.le_of_ble_eq_true rfl) (eX5_sum hk_l0 h)
theorem kX5_sum {own : String} {cc : ByteArray} {nL : Nat} {rt : Option FieldType} {d pc ix : Nat} {L : List (Nat × Value)} {st : List Value} {M : Mem} {Rt : xGt → Array Value → State → Outcome → State → Prop} {Q : Bool → Mem → Prop} {l0 : Nat} (hd : decode cc pc = .ok (.invokevirtual ix, 3)) (q : Nat) (hq : pc + 3 = q) (hk_l0 : SHk l0 = 5) (w1 : Cond.methodLink own ix yX5_sum ∈ xTs) (hr : 3 < d) (hst : (st.map fun v => v.category).sum ≤ 8) (h : FX5_sum Q l0 M) (k : ∀ (r : Bool) (N : Mem), Q r N → xX own cc nL rt d q L (.int (bI r) :: st) N Rt) : xX own cc nL rt d pc L (.ref l0 :: st) M Rt :=
  x_callV_b (n := 0) (As := []) hd q hq hk_l0 (by decide) rfl rfl w1 kw4_66 ks2_2 kw1_11 kw4_67 (by decide +kernel) rfl hr (by decide) hst _ rfl (cX5_sum_ hk_l0 h) k
def FX5_take (Q : Bool → Mem → Prop) (l0 : Nat) (l1 : Int32) (M : Mem) : Prop :=
  FX5_kind (fun (r1 : Int32) => ((r1 = l1 → ∀ M2 : Mem, M2 = xu M l0 5 ((M l0 5) + 1) → Q true M2) ∧ (¬ r1 = l1 → FX5_refuse (fun (r4 : Bool) (M3 : Mem) => Q r4 M3) l0 1 M))) l0 M
theorem eX5_take {Q : Bool → Mem → Prop} {l0 : Nat} {l1 : Int32} {M : Mem} (hk_l0 : SHk l0 = 5) (h : FX5_take Q l0 l1 M) : xX RX5 cX5_take 2 (some .boolean) 2 0 [(0, .ref l0), (1, .int l1)] [] M (xQb Q) := by
  unfold FX5_take at h
  refine x_aload_n dX5_take_0 rfl 1 rfl ?_
  refine kX5_kind dX5_take_1 4 rfl hk_l0 kw4_40 (Nat.le_of_ble_eq_true rfl) (Nat.le_of_ble_eq_true rfl) h (fun r1 h => ?_)
  refine x_iload_n dX5_take_4 rfl 5 rfl ?_
  refine x_icmp_eq dX5_take_5 14 8 rfl rfl (fun hc => ?_) (fun hc => ?_)
  · have h := h.1 hc
    refine x_aload_n dX5_take_14 rfl 15 rfl ?_
    refine x_dup dX5_take_15 rfl 16 rfl ?_
    refine gf5_5 dX5_take_16 19 rfl hk_l0 kw2_99 ?_
    refine x_iconst dX5_take_19 kc_1 20 rfl ?_
    refine x_iadd dX5_take_20 21 rfl ?_
    refine pf5_5 dX5_take_21 24 rfl hk_l0 kw2_99 (x_mem (fun M2 hM2 => ?_))
    have h := h M2 hM2
    refine x_iconst dX5_take_24 kc_1 25 rfl ?_
    exact x_zret (z := true) dX5_take_25 h
  · have h := h.2 hc
    refine x_aload_n dX5_take_8 rfl 9 rfl ?_
    refine x_iconst dX5_take_9 kc_1 10 rfl ?_
    refine kX5_refuse dX5_take_10 13 rfl hk_l0 kw4_56 (Nat.le_of_ble_eq_true rfl) (Nat.le_of_ble_eq_true rfl) h (fun r4 M3 h => ?_)
    exact x_zret dX5_take_13 h
theorem cX5_take_ {Q : Bool → Mem → Prop} {l0 : Nat} {l1 : Int32} {M : Mem} (hk_l0 : SHk l0 = 5) (h : FX5_take Q l0 l1 M) : xM yX5_take cX5_take 2 (some .boolean) 2 [.ref l0, .int l1] M (xQb Q) := xM_of (by decide +kernel) (Nat.le_of_ble_eq_true rfl) (eX5_take hk_l0 h)
theorem kX5_take {own : String} {cc : ByteArray} {nL : Nat} {rt : Option FieldType} {d pc ix : Nat} {L : List (Nat × Value)} {st : List Value} {M : Mem} {Rt : xGt → Array Value → State → Outcome → State → Prop} {Q : Bool → Mem → Prop} {l0 : Nat} {l1 : Int32} (hd : decode cc pc = .ok (.invokevirtual ix, 3)) (q : Nat) (hq : pc + 3 = q) (hk_l0 : SHk l0 = 5) (w1 : Cond.methodLink own ix yX5_take ∈ xTs) (hr : 2 < d) (hst : (st.map fun v => v.category).sum ≤ 8) (h : FX5_take Q l0 l1 M) (k : ∀ (r : Bool) (N : Mem), Q r N → xX own cc nL rt d q L (.int (bI r) :: st) N Rt) : xX own cc nL rt d pc L (.int l1 :: .ref l0 :: st) M Rt :=
  x_callV_b (n := 1) (As := [.int l1]) hd q hq hk_l0 (by decide) rfl rfl w1 kw4_98 ks2_8 kw1_11 kw4_99 (by decide +kernel) rfl hr (by decide) hst _ rfl (cX5_take_ hk_l0 h) k
def NX5_comparison_20 (Gd Gc : (Bool → Mem → Prop) → Nat → Int32 → Mem → Prop) (Q : Bool → Mem → Prop) (l0 : Nat) (l1 : Int32) (l2 : Int32) (M : Mem) : Prop :=
  ((l1 < 8 → ∀ M1 : Mem, M1 = xu M l0 5 ((M l0 5) + 1) → ((¬ l2 = 0 → Gc (fun (r3 : Bool) (M2 : Mem) => ((r3 = true → FX2_emit (fun (M4 : Mem) => Q true M4) (l0 + 1) (-10) M2) ∧ (r3 = false → Q false M2))) l0 (l1 + 1) M1) ∧ (l2 = 0 → Gd (fun (r6 : Bool) (M5 : Mem) => ((r6 = false → Q false M5) ∧ (r6 = true → FX5_take (fun (r8 : Bool) (M7 : Mem) => ((r8 = false → Q false M7) ∧ (r8 = true → Q true M7))) l0 41 M5))) l0 (l1 + 1) M1))) ∧ (¬ l1 < 8 → FX5_refuse (fun (r10 : Bool) (M9 : Mem) => Q r10 M9) l0 3 M))
theorem nX5_comparison_20 {Gd Gc : (Bool → Mem → Prop) → Nat → Int32 → Mem → Prop} {z : Nat} (hGd : ∀ {Q : Bool → Mem → Prop} {l0 : Nat} {l1 : Int32} {M : Mem}, SHk l0 = 5 → Gd Q l0 l1 M → xM yX5_condition cX5_condition 5 (some .boolean) (4 + z) [.ref l0, .int l1] M (xQb Q)) (hGc : ∀ {Q : Bool → Mem → Prop} {l0 : Nat} {l1 : Int32} {M : Mem}, SHk l0 = 5 → Gc Q l0 l1 M → xM yX5_comparison cX5_comparison 4 (some .boolean) (4 + z) [.ref l0, .int l1] M (xQb Q)) {Q : Bool → Mem → Prop} {l0 : Nat} {l1 : Int32} {l2 : Int32} {M : Mem} (hk_l0 : SHk l0 = 5) (h : NX5_comparison_20 Gd Gc Q l0 l1 l2 M) : xX RX5 cX5_comparison 4 (some .boolean) (4 + (z + 1)) 20 [(0, .ref l0), (1, .int l1), (2, .int l2)] [] M (xQb Q) := by
  unfold NX5_comparison_20 at h
  refine x_iload_n dX5_comparison_20 rfl 21 rfl ?_
  refine x_bipush dX5_comparison_21 kb_8 23 rfl ?_
  refine x_icmp_lt dX5_comparison_23 32 26 rfl rfl (fun hc => ?_) (fun hc => ?_)
  · have h := h.1 hc
    refine x_aload_n dX5_comparison_32 rfl 33 rfl ?_
    refine x_dup dX5_comparison_33 rfl 34 rfl ?_
    refine gf5_5 dX5_comparison_34 37 rfl hk_l0 kw2_99 ?_
    refine x_iconst dX5_comparison_37 kc_1 38 rfl ?_
    refine x_iadd dX5_comparison_38 39 rfl ?_
    refine pf5_5 dX5_comparison_39 42 rfl hk_l0 kw2_99 (x_mem (fun M1 hM1 => ?_))
    have h := h M1 hM1
    refine x_iload_n dX5_comparison_42 rfl 43 rfl ?_
    refine x_if_ne dX5_comparison_43 71 46 rfl rfl (fun hc => ?_) (fun hc => ?_)
    · have h := h.1 hc
      refine x_aload_n dX5_comparison_71 rfl 72 rfl ?_
      refine x_iload_n dX5_comparison_72 rfl 73 rfl ?_
      refine x_iconst dX5_comparison_73 kc_1 74 rfl ?_
      refine x_iadd dX5_comparison_74 75 rfl ?_
      refine x_callV_b (n := 1) (As := [.int (l1 + 1)]) dX5_comparison_75 78 rfl hk_l0 (by decide) rfl rfl kw4_92 kw4_94 ks2_7 kw1_11 kw4_95 (by decide +kernel) rfl (by omega) (by decide) (Nat.le_of_ble_eq_true rfl) _ rfl (hGc hk_l0 h) (fun r3 M2 h => ?_)
      refine x_if_ne_b dX5_comparison_78 83 81 rfl rfl (fun hc => ?_) (fun hc => ?_)
      · have h := h.1 hc
        refine x_aload_n dX5_comparison_83 rfl 84 rfl ?_
        refine gf5_0 dX5_comparison_84 87 rfl hk_l0 kw2_90 ?_
        refine x_bipush dX5_comparison_87 kb_m10 89 rfl ?_
        refine kX2_emit dX5_comparison_89 92 rfl (ly5_0 hk_l0).1 kw4_76 (by omega) (Nat.le_of_ble_eq_true rfl) h (fun M4 h => ?_)
        refine x_iconst dX5_comparison_92 kc_1 93 rfl ?_
        exact x_zret (z := true) dX5_comparison_93 h
      · have h := h.2 hc
        refine x_iconst dX5_comparison_81 kc_0 82 rfl ?_
        exact x_zret (z := false) dX5_comparison_82 h
    · have h := h.2 hc
      refine x_aload_n dX5_comparison_46 rfl 47 rfl ?_
      refine x_iload_n dX5_comparison_47 rfl 48 rfl ?_
      refine x_iconst dX5_comparison_48 kc_1 49 rfl ?_
      refine x_iadd dX5_comparison_49 50 rfl ?_
      refine x_callV_b (n := 1) (As := [.int (l1 + 1)]) dX5_comparison_50 53 rfl hk_l0 (by decide) rfl rfl kw4_88 kw4_90 ks2_6 kw1_11 kw4_91 (by decide +kernel) rfl (by omega) (by decide) (Nat.le_of_ble_eq_true rfl) _ rfl (hGd hk_l0 h) (fun r6 M5 h => ?_)
      refine x_if_eq_b dX5_comparison_53 69 56 rfl rfl (fun hc => ?_) (fun hc => ?_)
      · have h := h.1 hc
        refine x_iconst dX5_comparison_69 kc_0 70 rfl ?_
        exact x_zret (z := false) dX5_comparison_70 h
      · have h := h.2 hc
        refine x_aload_n dX5_comparison_56 rfl 57 rfl ?_
        refine x_bipush dX5_comparison_57 kb_41 59 rfl ?_
        refine kX5_take dX5_comparison_59 62 rfl hk_l0 kw4_96 (by omega) (Nat.le_of_ble_eq_true rfl) h (fun r8 M7 h => ?_)
        refine x_if_eq_b dX5_comparison_62 69 65 rfl rfl (fun hc => ?_) (fun hc => ?_)
        · have h := h.1 hc
          refine x_iconst dX5_comparison_69 kc_0 70 rfl ?_
          exact x_zret (z := false) dX5_comparison_70 h
        · have h := h.2 hc
          refine x_iconst dX5_comparison_65 kc_1 66 rfl ?_
          refine x_goto dX5_comparison_66 70 rfl ?_
          exact x_zret (z := true) dX5_comparison_70 h
  · have h := h.2 hc
    refine x_aload_n dX5_comparison_26 rfl 27 rfl ?_
    refine x_iconst dX5_comparison_27 kc_3 28 rfl ?_
    refine kX5_refuse dX5_comparison_28 31 rfl hk_l0 kw4_56 (by omega) (Nat.le_of_ble_eq_true rfl) h (fun r10 M9 h => ?_)
    exact x_zret dX5_comparison_31 h
def NX5_comparison_179 (Gd Gc : (Bool → Mem → Prop) → Nat → Int32 → Mem → Prop) (Q : Bool → Mem → Prop) (s0 : Nat) (s1 : Int32) (M : Mem) : Prop :=
  FX2_emit (fun (M11 : Mem) => Q true M11) s0 s1 M
theorem nX5_comparison_179 {Gd Gc : (Bool → Mem → Prop) → Nat → Int32 → Mem → Prop} {z : Nat} (hGd : ∀ {Q : Bool → Mem → Prop} {l0 : Nat} {l1 : Int32} {M : Mem}, SHk l0 = 5 → Gd Q l0 l1 M → xM yX5_condition cX5_condition 5 (some .boolean) (4 + z) [.ref l0, .int l1] M (xQb Q)) (hGc : ∀ {Q : Bool → Mem → Prop} {l0 : Nat} {l1 : Int32} {M : Mem}, SHk l0 = 5 → Gc Q l0 l1 M → xM yX5_comparison cX5_comparison 4 (some .boolean) (4 + z) [.ref l0, .int l1] M (xQb Q)) {Q : Bool → Mem → Prop} {s0 : Nat} {s1 : Int32} {M : Mem} (hk_s0 : SHk s0 = 2) (h : NX5_comparison_179 Gd Gc Q s0 s1 M) : xX RX5 cX5_comparison 4 (some .boolean) (4 + (z + 1)) 179 [] [.int s1, .ref s0] M (xQb Q) := by
  unfold NX5_comparison_179 at h
  refine kX2_emit dX5_comparison_179 182 rfl hk_s0 kw4_76 (by omega) (Nat.le_of_ble_eq_true rfl) h (fun M11 h => ?_)
  refine x_iconst dX5_comparison_182 kc_1 183 rfl ?_
  exact x_zret (z := true) dX5_comparison_183 h
def NX5_comparison_132 (Gd Gc : (Bool → Mem → Prop) → Nat → Int32 → Mem → Prop) (Q : Bool → Mem → Prop) (l0 : Nat) (l3 : Int32) (M : Mem) : Prop :=
  ∀ M12 : Mem, M12 = xu M l0 5 ((M l0 5) + 1) → FX5_sum (fun (r14 : Bool) (M13 : Mem) => ((r14 = true → ((¬ l3 = 60 → ((¬ l3 = 61 → NX5_comparison_179 Gd Gc Q (l0 + 1) (-7) M13) ∧ (l3 = 61 → NX5_comparison_179 Gd Gc Q (l0 + 1) (-6) M13))) ∧ (l3 = 60 → NX5_comparison_179 Gd Gc Q (l0 + 1) (-5) M13))) ∧ (r14 = false → Q false M13))) l0 M12
theorem nX5_comparison_132 {Gd Gc : (Bool → Mem → Prop) → Nat → Int32 → Mem → Prop} {z : Nat} (hGd : ∀ {Q : Bool → Mem → Prop} {l0 : Nat} {l1 : Int32} {M : Mem}, SHk l0 = 5 → Gd Q l0 l1 M → xM yX5_condition cX5_condition 5 (some .boolean) (4 + z) [.ref l0, .int l1] M (xQb Q)) (hGc : ∀ {Q : Bool → Mem → Prop} {l0 : Nat} {l1 : Int32} {M : Mem}, SHk l0 = 5 → Gc Q l0 l1 M → xM yX5_comparison cX5_comparison 4 (some .boolean) (4 + z) [.ref l0, .int l1] M (xQb Q)) {Q : Bool → Mem → Prop} {l0 : Nat} {l3 : Int32} {M : Mem} (hk_l0 : SHk l0 = 5) (h : NX5_comparison_132 Gd Gc Q l0 l3 M) : xX RX5 cX5_comparison 4 (some .boolean) (4 + (z + 1)) 132 [(0, .ref l0), (3, .int l3)] [] M (xQb Q) := by
  unfold NX5_comparison_132 at h
  refine x_aload_n dX5_comparison_132 rfl 133 rfl ?_
  refine x_dup dX5_comparison_133 rfl 134 rfl ?_
  refine gf5_5 dX5_comparison_134 137 rfl hk_l0 kw2_99 ?_
  refine x_iconst dX5_comparison_137 kc_1 138 rfl ?_
  refine x_iadd dX5_comparison_138 139 rfl ?_
  refine pf5_5 dX5_comparison_139 142 rfl hk_l0 kw2_99 (x_mem (fun M12 hM12 => ?_))
  have h := h M12 hM12
  refine x_aload_n dX5_comparison_142 rfl 143 rfl ?_
  refine kX5_sum dX5_comparison_143 146 rfl hk_l0 kw4_64 (by omega) (Nat.le_of_ble_eq_true rfl) h (fun r14 M13 h => ?_)
  refine x_if_ne_b dX5_comparison_146 151 149 rfl rfl (fun hc => ?_) (fun hc => ?_)
  · have h := h.1 hc
    refine x_aload_n dX5_comparison_151 rfl 152 rfl ?_
    refine gf5_0 dX5_comparison_152 155 rfl hk_l0 kw2_90 ?_
    refine x_iload_n dX5_comparison_155 rfl 156 rfl ?_
    refine x_bipush dX5_comparison_156 kb_60 158 rfl ?_
    refine x_icmp_ne dX5_comparison_158 166 161 rfl rfl (fun hc => ?_) (fun hc => ?_)
    · have h := h.1 hc
      refine x_iload_n dX5_comparison_166 rfl 167 rfl ?_
      refine x_bipush dX5_comparison_167 kb_61 169 rfl ?_
      refine x_icmp_ne dX5_comparison_169 177 172 rfl rfl (fun hc => ?_) (fun hc => ?_)
      · have h := h.1 hc
        refine x_bipush dX5_comparison_177 kb_m7 179 rfl ?_
        refine x_weak [] [] rfl ?_
        exact nX5_comparison_179 hGd hGc (ly5_0 hk_l0).1 h
      · have h := h.2 hc
        refine x_bipush dX5_comparison_172 kb_m6 174 rfl ?_
        refine x_goto dX5_comparison_174 179 rfl ?_
        refine x_weak [] [] rfl ?_
        exact nX5_comparison_179 hGd hGc (ly5_0 hk_l0).1 h
    · have h := h.2 hc
      refine x_bipush dX5_comparison_161 kb_m5 163 rfl ?_
      refine x_goto dX5_comparison_163 179 rfl ?_
      refine x_weak [] [] rfl ?_
      exact nX5_comparison_179 hGd hGc (ly5_0 hk_l0).1 h
  · have h := h.2 hc
    refine x_iconst dX5_comparison_149 kc_0 150 rfl ?_
    exact x_zret (z := false) dX5_comparison_150 h
def FX5_comparison (Gd Gc : (Bool → Mem → Prop) → Nat → Int32 → Mem → Prop) (Q : Bool → Mem → Prop) (l0 : Nat) (l1 : Int32) (M : Mem) : Prop :=
  FX5_isWord (fun (r15 : Bool) => ((¬ (bI r15) = 0 → NX5_comparison_20 Gd Gc Q l0 l1 (bI r15) M) ∧ ((bI r15) = 0 → FX5_kind (fun (r16 : Int32) => ((¬ r16 = 40 → FX5_sum (fun (r18 : Bool) (M17 : Mem) => ((r18 = true → FX5_kind (fun (r19 : Int32) => ((r19 = 60 → NX5_comparison_132 Gd Gc Q l0 r19 M17) ∧ (¬ r19 = 60 → ((r19 = 61 → NX5_comparison_132 Gd Gc Q l0 r19 M17) ∧ (¬ r19 = 61 → ((r19 = 62 → NX5_comparison_132 Gd Gc Q l0 r19 M17) ∧ (¬ r19 = 62 → FX5_refuse (fun (r21 : Bool) (M20 : Mem) => Q r21 M20) l0 1 M17))))))) l0 M17) ∧ (r18 = false → Q false M17))) l0 M) ∧ (r16 = 40 → NX5_comparison_20 Gd Gc Q l0 l1 (bI r15) M))) l0 M))) l0 6 M
theorem eX5_comparison {Gd Gc : (Bool → Mem → Prop) → Nat → Int32 → Mem → Prop} {z : Nat} (hGd : ∀ {Q : Bool → Mem → Prop} {l0 : Nat} {l1 : Int32} {M : Mem}, SHk l0 = 5 → Gd Q l0 l1 M → xM yX5_condition cX5_condition 5 (some .boolean) (4 + z) [.ref l0, .int l1] M (xQb Q)) (hGc : ∀ {Q : Bool → Mem → Prop} {l0 : Nat} {l1 : Int32} {M : Mem}, SHk l0 = 5 → Gc Q l0 l1 M → xM yX5_comparison cX5_comparison 4 (some .boolean) (4 + z) [.ref l0, .int l1] M (xQb Q)) {Q : Bool → Mem → Prop} {l0 : Nat} {l1 : Int32} {M : Mem} (hk_l0 : SHk l0 = 5) (h : FX5_comparison Gd Gc Q l0 l1 M) : xX RX5 cX5_comparison 4 (some .boolean) (4 + (z + 1)) 0 [(0, .ref l0), (1, .int l1)] [] M (xQb Q) := by
  unfold FX5_comparison at h
  refine x_aload_n dX5_comparison_0 rfl 1 rfl ?_
  refine x_bipush dX5_comparison_1 kb_6 3 rfl ?_
  refine kX5_isWord dX5_comparison_3 6 rfl hk_l0 kw4_48 (by omega) (Nat.le_of_ble_eq_true rfl) h (fun r15 h => ?_)
  refine x_istore_n dX5_comparison_6 (Nat.le_of_ble_eq_true rfl) [(0, .ref l0), (1, .int l1), (2, .int (bI r15))] rfl 7 rfl ?_
  refine x_iload_n dX5_comparison_7 rfl 8 rfl ?_
  refine x_if_ne dX5_comparison_8 20 11 rfl rfl (fun hc => ?_) (fun hc => ?_)
  · have h := h.1 hc
    exact nX5_comparison_20 hGd hGc hk_l0 h
  · have h := h.2 hc
    refine x_aload_n dX5_comparison_11 rfl 12 rfl ?_
    refine kX5_kind dX5_comparison_12 15 rfl hk_l0 kw4_40 (by omega) (Nat.le_of_ble_eq_true rfl) h (fun r16 h => ?_)
    refine x_bipush dX5_comparison_15 kb_40 17 rfl ?_
    refine x_icmp_ne dX5_comparison_17 94 20 rfl rfl (fun hc => ?_) (fun hc => ?_)
    · have h := h.1 hc
      refine x_aload_n dX5_comparison_94 rfl 95 rfl ?_
      refine kX5_sum dX5_comparison_95 98 rfl hk_l0 kw4_64 (by omega) (Nat.le_of_ble_eq_true rfl) h (fun r18 M17 h => ?_)
      refine x_if_ne_b dX5_comparison_98 103 101 rfl rfl (fun hc => ?_) (fun hc => ?_)
      · have h := h.1 hc
        refine x_aload_n dX5_comparison_103 rfl 104 rfl ?_
        refine kX5_kind dX5_comparison_104 107 rfl hk_l0 kw4_40 (by omega) (Nat.le_of_ble_eq_true rfl) h (fun r19 h => ?_)
        refine x_istore_n dX5_comparison_107 (Nat.le_of_ble_eq_true rfl) [(0, .ref l0), (1, .int l1), (2, .int (bI r15)), (3, .int r19)] rfl 108 rfl ?_
        refine x_iload_n dX5_comparison_108 rfl 109 rfl ?_
        refine x_bipush dX5_comparison_109 kb_60 111 rfl ?_
        refine x_icmp_eq dX5_comparison_111 132 114 rfl rfl (fun hc => ?_) (fun hc => ?_)
        · have h := h.1 hc
          refine x_weak [(0, .ref l0), (3, .int r19)] [0, 3] rfl ?_
          exact nX5_comparison_132 hGd hGc hk_l0 h
        · have h := h.2 hc
          refine x_iload_n dX5_comparison_114 rfl 115 rfl ?_
          refine x_bipush dX5_comparison_115 kb_61 117 rfl ?_
          refine x_icmp_eq dX5_comparison_117 132 120 rfl rfl (fun hc => ?_) (fun hc => ?_)
          · have h := h.1 hc
            refine x_weak [(0, .ref l0), (3, .int r19)] [0, 3] rfl ?_
            exact nX5_comparison_132 hGd hGc hk_l0 h
          · have h := h.2 hc
            refine x_iload_n dX5_comparison_120 rfl 121 rfl ?_
            refine x_bipush dX5_comparison_121 kb_62 123 rfl ?_
            refine x_icmp_eq dX5_comparison_123 132 126 rfl rfl (fun hc => ?_) (fun hc => ?_)
            · have h := h.1 hc
              refine x_weak [(0, .ref l0), (3, .int r19)] [0, 3] rfl ?_
              exact nX5_comparison_132 hGd hGc hk_l0 h
            · have h := h.2 hc
              refine x_aload_n dX5_comparison_126 rfl 127 rfl ?_
              refine x_iconst dX5_comparison_127 kc_1 128 rfl ?_
              refine kX5_refuse dX5_comparison_128 131 rfl hk_l0 kw4_56 (by omega) (Nat.le_of_ble_eq_true rfl) h (fun r21 M20 h => ?_)
              exact x_zret dX5_comparison_131 h
      · have h := h.2 hc
        refine x_iconst dX5_comparison_101 kc_0 102 rfl ?_
        exact x_zret (z := false) dX5_comparison_102 h
    · have h := h.2 hc
      exact nX5_comparison_20 hGd hGc hk_l0 h
theorem cX5_comparison_ {Gd Gc : (Bool → Mem → Prop) → Nat → Int32 → Mem → Prop} {z : Nat} (hGd : ∀ {Q : Bool → Mem → Prop} {l0 : Nat} {l1 : Int32} {M : Mem}, SHk l0 = 5 → Gd Q l0 l1 M → xM yX5_condition cX5_condition 5 (some .boolean) (4 + z) [.ref l0, .int l1] M (xQb Q)) (hGc : ∀ {Q : Bool → Mem → Prop} {l0 : Nat} {l1 : Int32} {M : Mem}, SHk l0 = 5 → Gc Q l0 l1 M → xM yX5_comparison cX5_comparison 4 (some .boolean) (4 + z) [.ref l0, .int l1] M (xQb Q)) {Q : Bool → Mem → Prop} {l0 : Nat} {l1 : Int32} {M : Mem} (hk_l0 : SHk l0 = 5) (h : FX5_comparison Gd Gc Q l0 l1 M) : xM yX5_comparison cX5_comparison 4 (some .boolean) (4 + (z + 1)) [.ref l0, .int l1] M (xQb Q) := xM_of (by decide +kernel) (Nat.le_of_ble_eq_true rfl) (eX5_comparison hGd hGc hk_l0 h)
def NX5_condition_75 (Gd Gc : (Bool → Mem → Prop) → Nat → Int32 → Mem → Prop) (Q : Bool → Mem → Prop) (B14 : Int32 → Int32 → Mem → Prop) (l0 : Nat) (l1 : Int32) (l3 : Int32) (l4 : Int32) (s0 : Int32) (M : Mem) : Prop :=
  ∀ M1 : Mem, M1 = xu M l0 5 ((M l0 5) + 1) → Gc (fun (r3 : Bool) (M2 : Mem) => ((r3 = true → ((l4 = 0 → B14 s0 (l3 + 1) M2) ∧ (¬ l4 = 0 → FX2_emit (fun (M4 : Mem) => B14 s0 (l3 + 1) M4) (l0 + 1) (-8) M2))) ∧ (r3 = false → Q false M2))) l0 l1 M1
theorem nX5_condition_75 {Gd Gc : (Bool → Mem → Prop) → Nat → Int32 → Mem → Prop} {z : Nat} (hGd : ∀ {Q : Bool → Mem → Prop} {l0 : Nat} {l1 : Int32} {M : Mem}, SHk l0 = 5 → Gd Q l0 l1 M → xM yX5_condition cX5_condition 5 (some .boolean) (4 + z) [.ref l0, .int l1] M (xQb Q)) (hGc : ∀ {Q : Bool → Mem → Prop} {l0 : Nat} {l1 : Int32} {M : Mem}, SHk l0 = 5 → Gc Q l0 l1 M → xM yX5_comparison cX5_comparison 4 (some .boolean) (4 + z) [.ref l0, .int l1] M (xQb Q)) {Q : Bool → Mem → Prop} {B14 : Int32 → Int32 → Mem → Prop} {l0 : Nat} {l1 : Int32} {l3 : Int32} {l4 : Int32} {s0 : Int32} {M : Mem} (hB14 : ∀ (l2 : Int32) (l3 : Int32) (M : Mem), B14 l2 l3 M → xX RX5 cX5_condition 5 (some .boolean) (4 + (z + 1)) 14 [(0, .ref l0), (1, .int l1), (2, .int l2), (3, .int l3)] [] M (xQb Q)) (hk_l0 : SHk l0 = 5) (h : NX5_condition_75 Gd Gc Q B14 l0 l1 l3 l4 s0 M) : xX RX5 cX5_condition 5 (some .boolean) (4 + (z + 1)) 75 [(0, .ref l0), (1, .int l1), (3, .int l3), (4, .int l4)] [.int s0] M (xQb Q) := by
  unfold NX5_condition_75 at h
  refine x_istore_n dX5_condition_75 (Nat.le_of_ble_eq_true rfl) [(0, .ref l0), (1, .int l1), (2, .int s0), (3, .int l3), (4, .int l4)] rfl 76 rfl ?_
  refine x_aload_n dX5_condition_76 rfl 77 rfl ?_
  refine x_dup dX5_condition_77 rfl 78 rfl ?_
  refine gf5_5 dX5_condition_78 81 rfl hk_l0 kw2_99 ?_
  refine x_iconst dX5_condition_81 kc_1 82 rfl ?_
  refine x_iadd dX5_condition_82 83 rfl ?_
  refine pf5_5 dX5_condition_83 86 rfl hk_l0 kw2_99 (x_mem (fun M1 hM1 => ?_))
  have h := h M1 hM1
  refine x_aload_n dX5_condition_86 rfl 87 rfl ?_
  refine x_iload_n dX5_condition_87 rfl 88 rfl ?_
  refine x_callV_b (n := 1) (As := [.int l1]) dX5_condition_88 91 rfl hk_l0 (by decide) rfl rfl kw4_92 kw4_94 ks2_7 kw1_11 kw4_95 (by decide +kernel) rfl (by omega) (by decide) (Nat.le_of_ble_eq_true rfl) _ rfl (hGc hk_l0 h) (fun r3 M2 h => ?_)
  refine x_if_ne_b dX5_condition_91 96 94 rfl rfl (fun hc => ?_) (fun hc => ?_)
  · have h := h.1 hc
    refine x_iload dX5_condition_96 rfl 98 rfl ?_
    refine x_if_eq dX5_condition_98 110 101 rfl rfl (fun hc => ?_) (fun hc => ?_)
    · have h := h.1 hc
      refine x_iinc dX5_condition_110 rfl (congrArg (l3 + ·) kc_1) (Nat.le_of_ble_eq_true rfl) [(0, .ref l0), (1, .int l1), (2, .int s0), (3, .int (l3 + 1)), (4, .int l4)] rfl 113 rfl ?_
      refine x_goto dX5_condition_113 14 rfl ?_
      refine x_weak [(0, .ref l0), (1, .int l1), (2, .int s0), (3, .int (l3 + 1))] [0, 1, 2, 3] rfl ?_
      exact hB14 _ _ _ h
    · have h := h.2 hc
      refine x_aload_n dX5_condition_101 rfl 102 rfl ?_
      refine gf5_0 dX5_condition_102 105 rfl hk_l0 kw2_90 ?_
      refine x_bipush dX5_condition_105 kb_m8 107 rfl ?_
      refine kX2_emit dX5_condition_107 110 rfl (ly5_0 hk_l0).1 kw4_76 (by omega) (Nat.le_of_ble_eq_true rfl) h (fun M4 h => ?_)
      refine x_iinc dX5_condition_110 rfl (congrArg (l3 + ·) kc_1) (Nat.le_of_ble_eq_true rfl) [(0, .ref l0), (1, .int l1), (2, .int s0), (3, .int (l3 + 1)), (4, .int l4)] rfl 113 rfl ?_
      refine x_goto dX5_condition_113 14 rfl ?_
      refine x_weak [(0, .ref l0), (1, .int l1), (2, .int s0), (3, .int (l3 + 1))] [0, 1, 2, 3] rfl ?_
      exact hB14 _ _ _ h
  · have h := h.2 hc
    refine x_iconst dX5_condition_94 kc_0 95 rfl ?_
    exact x_zret (z := false) dX5_condition_95 h
def NX5_condition_70 (Gd Gc : (Bool → Mem → Prop) → Nat → Int32 → Mem → Prop) (Q : Bool → Mem → Prop) (B14 : Int32 → Int32 → Mem → Prop) (l0 : Nat) (l1 : Int32) (l3 : Int32) (l4 : Int32) (M : Mem) : Prop :=
  NX5_condition_75 Gd Gc Q B14 l0 l1 l3 l4 1 M
theorem nX5_condition_70 {Gd Gc : (Bool → Mem → Prop) → Nat → Int32 → Mem → Prop} {z : Nat} (hGd : ∀ {Q : Bool → Mem → Prop} {l0 : Nat} {l1 : Int32} {M : Mem}, SHk l0 = 5 → Gd Q l0 l1 M → xM yX5_condition cX5_condition 5 (some .boolean) (4 + z) [.ref l0, .int l1] M (xQb Q)) (hGc : ∀ {Q : Bool → Mem → Prop} {l0 : Nat} {l1 : Int32} {M : Mem}, SHk l0 = 5 → Gc Q l0 l1 M → xM yX5_comparison cX5_comparison 4 (some .boolean) (4 + z) [.ref l0, .int l1] M (xQb Q)) {Q : Bool → Mem → Prop} {B14 : Int32 → Int32 → Mem → Prop} {l0 : Nat} {l1 : Int32} {l3 : Int32} {l4 : Int32} {M : Mem} (hB14 : ∀ (l2 : Int32) (l3 : Int32) (M : Mem), B14 l2 l3 M → xX RX5 cX5_condition 5 (some .boolean) (4 + (z + 1)) 14 [(0, .ref l0), (1, .int l1), (2, .int l2), (3, .int l3)] [] M (xQb Q)) (hk_l0 : SHk l0 = 5) (h : NX5_condition_70 Gd Gc Q B14 l0 l1 l3 l4 M) : xX RX5 cX5_condition 5 (some .boolean) (4 + (z + 1)) 70 [(0, .ref l0), (1, .int l1), (3, .int l3), (4, .int l4)] [] M (xQb Q) := by
  unfold NX5_condition_70 at h
  refine x_iconst dX5_condition_70 kc_1 71 rfl ?_
  refine x_goto dX5_condition_71 75 rfl ?_
  exact nX5_condition_75 hGd hGc hB14 hk_l0 h
def NX5_condition_61 (Gd Gc : (Bool → Mem → Prop) → Nat → Int32 → Mem → Prop) (Q : Bool → Mem → Prop) (B14 : Int32 → Int32 → Mem → Prop) (l0 : Nat) (l1 : Int32) (l2 : Int32) (l3 : Int32) (l4 : Int32) (M : Mem) : Prop :=
  ((¬ l2 = 0 → NX5_condition_70 Gd Gc Q B14 l0 l1 l3 l4 M) ∧ (l2 = 0 → ((¬ l4 = 0 → NX5_condition_75 Gd Gc Q B14 l0 l1 l3 l4 0 M) ∧ (l4 = 0 → NX5_condition_70 Gd Gc Q B14 l0 l1 l3 l4 M))))
theorem nX5_condition_61 {Gd Gc : (Bool → Mem → Prop) → Nat → Int32 → Mem → Prop} {z : Nat} (hGd : ∀ {Q : Bool → Mem → Prop} {l0 : Nat} {l1 : Int32} {M : Mem}, SHk l0 = 5 → Gd Q l0 l1 M → xM yX5_condition cX5_condition 5 (some .boolean) (4 + z) [.ref l0, .int l1] M (xQb Q)) (hGc : ∀ {Q : Bool → Mem → Prop} {l0 : Nat} {l1 : Int32} {M : Mem}, SHk l0 = 5 → Gc Q l0 l1 M → xM yX5_comparison cX5_comparison 4 (some .boolean) (4 + z) [.ref l0, .int l1] M (xQb Q)) {Q : Bool → Mem → Prop} {B14 : Int32 → Int32 → Mem → Prop} {l0 : Nat} {l1 : Int32} {l2 : Int32} {l3 : Int32} {l4 : Int32} {M : Mem} (hB14 : ∀ (l2 : Int32) (l3 : Int32) (M : Mem), B14 l2 l3 M → xX RX5 cX5_condition 5 (some .boolean) (4 + (z + 1)) 14 [(0, .ref l0), (1, .int l1), (2, .int l2), (3, .int l3)] [] M (xQb Q)) (hk_l0 : SHk l0 = 5) (h : NX5_condition_61 Gd Gc Q B14 l0 l1 l2 l3 l4 M) : xX RX5 cX5_condition 5 (some .boolean) (4 + (z + 1)) 61 [(0, .ref l0), (1, .int l1), (2, .int l2), (3, .int l3), (4, .int l4)] [] M (xQb Q) := by
  unfold NX5_condition_61 at h
  refine x_iload_n dX5_condition_61 rfl 62 rfl ?_
  refine x_if_ne dX5_condition_62 70 65 rfl rfl (fun hc => ?_) (fun hc => ?_)
  · have h := h.1 hc
    refine x_weak [(0, .ref l0), (1, .int l1), (3, .int l3), (4, .int l4)] [0, 1, 3, 4] rfl ?_
    exact nX5_condition_70 hGd hGc hB14 hk_l0 h
  · have h := h.2 hc
    refine x_iload dX5_condition_65 rfl 67 rfl ?_
    refine x_if_ne dX5_condition_67 74 70 rfl rfl (fun hc => ?_) (fun hc => ?_)
    · have h := h.1 hc
      refine x_iconst dX5_condition_74 kc_0 75 rfl ?_
      refine x_weak [(0, .ref l0), (1, .int l1), (3, .int l3), (4, .int l4)] [0, 1, 3, 4] rfl ?_
      exact nX5_condition_75 hGd hGc hB14 hk_l0 h
    · have h := h.2 hc
      refine x_weak [(0, .ref l0), (1, .int l1), (3, .int l3), (4, .int l4)] [0, 1, 3, 4] rfl ?_
      exact nX5_condition_70 hGd hGc hB14 hk_l0 h
def NX5_condition_46 (Gd Gc : (Bool → Mem → Prop) → Nat → Int32 → Mem → Prop) (Q : Bool → Mem → Prop) (B14 : Int32 → Int32 → Mem → Prop) (l0 : Nat) (l1 : Int32) (l2 : Int32) (l3 : Int32) (l4 : Int32) (M : Mem) : Prop :=
  ((¬ l4 = 0 → NX5_condition_61 Gd Gc Q B14 l0 l1 l2 l3 l4 M) ∧ (l4 = 0 → FX5_isWord (fun (r5 : Bool) => ((r5 = true → NX5_condition_61 Gd Gc Q B14 l0 l1 l2 l3 l4 M) ∧ (r5 = false → Q true M))) l0 4 M))
theorem nX5_condition_46 {Gd Gc : (Bool → Mem → Prop) → Nat → Int32 → Mem → Prop} {z : Nat} (hGd : ∀ {Q : Bool → Mem → Prop} {l0 : Nat} {l1 : Int32} {M : Mem}, SHk l0 = 5 → Gd Q l0 l1 M → xM yX5_condition cX5_condition 5 (some .boolean) (4 + z) [.ref l0, .int l1] M (xQb Q)) (hGc : ∀ {Q : Bool → Mem → Prop} {l0 : Nat} {l1 : Int32} {M : Mem}, SHk l0 = 5 → Gc Q l0 l1 M → xM yX5_comparison cX5_comparison 4 (some .boolean) (4 + z) [.ref l0, .int l1] M (xQb Q)) {Q : Bool → Mem → Prop} {B14 : Int32 → Int32 → Mem → Prop} {l0 : Nat} {l1 : Int32} {l2 : Int32} {l3 : Int32} {l4 : Int32} {M : Mem} (hB14 : ∀ (l2 : Int32) (l3 : Int32) (M : Mem), B14 l2 l3 M → xX RX5 cX5_condition 5 (some .boolean) (4 + (z + 1)) 14 [(0, .ref l0), (1, .int l1), (2, .int l2), (3, .int l3)] [] M (xQb Q)) (hk_l0 : SHk l0 = 5) (h : NX5_condition_46 Gd Gc Q B14 l0 l1 l2 l3 l4 M) : xX RX5 cX5_condition 5 (some .boolean) (4 + (z + 1)) 46 [(0, .ref l0), (1, .int l1), (2, .int l2), (3, .int l3), (4, .int l4)] [] M (xQb Q) := by
  unfold NX5_condition_46 at h
  refine x_iload dX5_condition_46 rfl 48 rfl ?_
  refine x_if_ne dX5_condition_48 61 51 rfl rfl (fun hc => ?_) (fun hc => ?_)
  · have h := h.1 hc
    exact nX5_condition_61 hGd hGc hB14 hk_l0 h
  · have h := h.2 hc
    refine x_aload_n dX5_condition_51 rfl 52 rfl ?_
    refine x_iconst dX5_condition_52 kc_4 53 rfl ?_
    refine kX5_isWord dX5_condition_53 56 rfl hk_l0 kw4_48 (by omega) (Nat.le_of_ble_eq_true rfl) h (fun r5 h => ?_)
    refine x_if_ne_b dX5_condition_56 61 59 rfl rfl (fun hc => ?_) (fun hc => ?_)
    · have h := h.1 hc
      exact nX5_condition_61 hGd hGc hB14 hk_l0 h
    · have h := h.2 hc
      refine x_iconst dX5_condition_59 kc_1 60 rfl ?_
      exact x_zret (z := true) dX5_condition_60 h
def lbX5_condition_14 (Gd Gc : (Bool → Mem → Prop) → Nat → Int32 → Mem → Prop) (Q : Bool → Mem → Prop) (l0 : Nat) (l1 : Int32) (B14 : Int32 → Int32 → Mem → Prop) (l2 : Int32) (l3 : Int32) (M : Mem) : Prop :=
  ((400 ≤ l3 → Q true M) ∧ (¬ 400 ≤ l3 → FX5_isWord (fun (r6 : Bool) => ((¬ (bI r6) = 0 → NX5_condition_46 Gd Gc Q B14 l0 l1 l2 l3 (bI r6) M) ∧ ((bI r6) = 0 → ((l2 = 0 → NX5_condition_46 Gd Gc Q B14 l0 l1 l2 l3 (bI r6) M) ∧ (¬ l2 = 0 → FX2_emit (fun (M7 : Mem) => NX5_condition_46 Gd Gc Q B14 l0 l1 l2 l3 (bI r6) M7) (l0 + 1) (-9) M))))) l0 5 M))
def NX5_condition_14 (Gd Gc : (Bool → Mem → Prop) → Nat → Int32 → Mem → Prop) (Q : Bool → Mem → Prop) (l0 : Nat) (l1 : Int32) (l2 : Int32) (l3 : Int32) (M : Mem) : Prop := xlp (fun (B : Int32 × Int32 × Mem → Prop) a => lbX5_condition_14 Gd Gc Q l0 l1 (fun l2 l3 M => B (l2, l3, M)) a.1 a.2.1 a.2.2) (l2, l3, M)
theorem nX5_condition_14 {Gd Gc : (Bool → Mem → Prop) → Nat → Int32 → Mem → Prop} {z : Nat} (hGd : ∀ {Q : Bool → Mem → Prop} {l0 : Nat} {l1 : Int32} {M : Mem}, SHk l0 = 5 → Gd Q l0 l1 M → xM yX5_condition cX5_condition 5 (some .boolean) (4 + z) [.ref l0, .int l1] M (xQb Q)) (hGc : ∀ {Q : Bool → Mem → Prop} {l0 : Nat} {l1 : Int32} {M : Mem}, SHk l0 = 5 → Gc Q l0 l1 M → xM yX5_comparison cX5_comparison 4 (some .boolean) (4 + z) [.ref l0, .int l1] M (xQb Q)) {Q : Bool → Mem → Prop} {l0 : Nat} {l1 : Int32} {l2 : Int32} {l3 : Int32} {M : Mem} (hk_l0 : SHk l0 = 5) (h : NX5_condition_14 Gd Gc Q l0 l1 l2 l3 M) : xX RX5 cX5_condition 5 (some .boolean) (4 + (z + 1)) 14 [(0, .ref l0), (1, .int l1), (2, .int l2), (3, .int l3)] [] M (xQb Q) := by
  obtain ⟨n, h⟩ := h
  have hB14 : ∀ (n : Nat) (l2 : Int32) (l3 : Int32) (M : Mem), xlpn (fun (B : Int32 × Int32 × Mem → Prop) a => lbX5_condition_14 Gd Gc Q l0 l1 (fun l2 l3 M => B (l2, l3, M)) a.1 a.2.1 a.2.2) n (l2, l3, M) → xX RX5 cX5_condition 5 (some .boolean) (4 + (z + 1)) 14 [(0, .ref l0), (1, .int l1), (2, .int l2), (3, .int l3)] [] M (xQb Q) := by
    intro n
    induction n with
    | zero => intro l2 l3 M h; exact False.elim h
    | succ n ih =>
      intro l2 l3 M h
      have hB14 := ih
      have h : lbX5_condition_14 Gd Gc Q l0 l1 (fun l2 l3 M => xlpn (fun (B : Int32 × Int32 × Mem → Prop) a => lbX5_condition_14 Gd Gc Q l0 l1 (fun l2 l3 M => B (l2, l3, M)) a.1 a.2.1 a.2.2) n (l2, l3, M)) l2 l3 M := h
      unfold lbX5_condition_14 at h
      refine x_iload_n dX5_condition_14 rfl 15 rfl ?_
      refine x_sipush dX5_condition_15 kh_400 18 rfl ?_
      refine x_icmp_ge dX5_condition_18 116 21 rfl rfl (fun hc => ?_) (fun hc => ?_)
      · have h := h.1 hc
        refine x_iconst dX5_condition_116 kc_1 117 rfl ?_
        exact x_zret (z := true) dX5_condition_117 h
      · have h := h.2 hc
        refine x_aload_n dX5_condition_21 rfl 22 rfl ?_
        refine x_iconst dX5_condition_22 kc_5 23 rfl ?_
        refine kX5_isWord dX5_condition_23 26 rfl hk_l0 kw4_48 (by omega) (Nat.le_of_ble_eq_true rfl) h (fun r6 h => ?_)
        refine x_istore dX5_condition_26 (Nat.le_of_ble_eq_true rfl) [(0, .ref l0), (1, .int l1), (2, .int l2), (3, .int l3), (4, .int (bI r6))] rfl 28 rfl ?_
        refine x_iload dX5_condition_28 rfl 30 rfl ?_
        refine x_if_ne dX5_condition_30 46 33 rfl rfl (fun hc => ?_) (fun hc => ?_)
        · have h := h.1 hc
          exact nX5_condition_46 hGd hGc hB14 hk_l0 h
        · have h := h.2 hc
          refine x_iload_n dX5_condition_33 rfl 34 rfl ?_
          refine x_if_eq dX5_condition_34 46 37 rfl rfl (fun hc => ?_) (fun hc => ?_)
          · have h := h.1 hc
            exact nX5_condition_46 hGd hGc hB14 hk_l0 h
          · have h := h.2 hc
            refine x_aload_n dX5_condition_37 rfl 38 rfl ?_
            refine gf5_0 dX5_condition_38 41 rfl hk_l0 kw2_90 ?_
            refine x_bipush dX5_condition_41 kb_m9 43 rfl ?_
            refine kX2_emit dX5_condition_43 46 rfl (ly5_0 hk_l0).1 kw4_76 (by omega) (Nat.le_of_ble_eq_true rfl) h (fun M7 h => ?_)
            exact nX5_condition_46 hGd hGc hB14 hk_l0 h
  exact hB14 n l2 l3 M h
def FX5_condition (Gd Gc : (Bool → Mem → Prop) → Nat → Int32 → Mem → Prop) (Q : Bool → Mem → Prop) (l0 : Nat) (l1 : Int32) (M : Mem) : Prop :=
  Gc (fun (r9 : Bool) (M8 : Mem) => ((r9 = true → NX5_condition_14 Gd Gc Q l0 l1 0 0 M8) ∧ (r9 = false → Q false M8))) l0 l1 M
theorem eX5_condition {Gd Gc : (Bool → Mem → Prop) → Nat → Int32 → Mem → Prop} {z : Nat} (hGd : ∀ {Q : Bool → Mem → Prop} {l0 : Nat} {l1 : Int32} {M : Mem}, SHk l0 = 5 → Gd Q l0 l1 M → xM yX5_condition cX5_condition 5 (some .boolean) (4 + z) [.ref l0, .int l1] M (xQb Q)) (hGc : ∀ {Q : Bool → Mem → Prop} {l0 : Nat} {l1 : Int32} {M : Mem}, SHk l0 = 5 → Gc Q l0 l1 M → xM yX5_comparison cX5_comparison 4 (some .boolean) (4 + z) [.ref l0, .int l1] M (xQb Q)) {Q : Bool → Mem → Prop} {l0 : Nat} {l1 : Int32} {M : Mem} (hk_l0 : SHk l0 = 5) (h : FX5_condition Gd Gc Q l0 l1 M) : xX RX5 cX5_condition 5 (some .boolean) (4 + (z + 1)) 0 [(0, .ref l0), (1, .int l1)] [] M (xQb Q) := by
  unfold FX5_condition at h
  refine x_aload_n dX5_condition_0 rfl 1 rfl ?_
  refine x_iload_n dX5_condition_1 rfl 2 rfl ?_
  refine x_callV_b (n := 1) (As := [.int l1]) dX5_condition_2 5 rfl hk_l0 (by decide) rfl rfl kw4_92 kw4_94 ks2_7 kw1_11 kw4_95 (by decide +kernel) rfl (by omega) (by decide) (Nat.le_of_ble_eq_true rfl) _ rfl (hGc hk_l0 h) (fun r9 M8 h => ?_)
  refine x_if_ne_b dX5_condition_5 10 8 rfl rfl (fun hc => ?_) (fun hc => ?_)
  · have h := h.1 hc
    refine x_iconst dX5_condition_10 kc_0 11 rfl ?_
    refine x_istore_n dX5_condition_11 (Nat.le_of_ble_eq_true rfl) [(0, .ref l0), (1, .int l1), (2, .int 0)] rfl 12 rfl ?_
    refine x_iconst dX5_condition_12 kc_0 13 rfl ?_
    refine x_istore_n dX5_condition_13 (Nat.le_of_ble_eq_true rfl) [(0, .ref l0), (1, .int l1), (2, .int 0), (3, .int 0)] rfl 14 rfl ?_
    exact nX5_condition_14 hGd hGc hk_l0 h
  · have h := h.2 hc
    refine x_iconst dX5_condition_8 kc_0 9 rfl ?_
    exact x_zret (z := false) dX5_condition_9 h
theorem cX5_condition_ {Gd Gc : (Bool → Mem → Prop) → Nat → Int32 → Mem → Prop} {z : Nat} (hGd : ∀ {Q : Bool → Mem → Prop} {l0 : Nat} {l1 : Int32} {M : Mem}, SHk l0 = 5 → Gd Q l0 l1 M → xM yX5_condition cX5_condition 5 (some .boolean) (4 + z) [.ref l0, .int l1] M (xQb Q)) (hGc : ∀ {Q : Bool → Mem → Prop} {l0 : Nat} {l1 : Int32} {M : Mem}, SHk l0 = 5 → Gc Q l0 l1 M → xM yX5_comparison cX5_comparison 4 (some .boolean) (4 + z) [.ref l0, .int l1] M (xQb Q)) {Q : Bool → Mem → Prop} {l0 : Nat} {l1 : Int32} {M : Mem} (hk_l0 : SHk l0 = 5) (h : FX5_condition Gd Gc Q l0 l1 M) : xM yX5_condition cX5_condition 5 (some .boolean) (4 + (z + 1)) [.ref l0, .int l1] M (xQb Q) := xM_of (by decide +kernel) (Nat.le_of_ble_eq_true rfl) (eX5_condition hGd hGc hk_l0 h)
/-- conditions and comparisons, at most n deep in one another -/
def Fcc : Nat → (((Bool → Mem → Prop) → Nat → Int32 → Mem → Prop) × ((Bool → Mem → Prop) → Nat → Int32 → Mem → Prop))
  | 0 => (fun _ _ _ _ => False, fun _ _ _ _ => False)
  | n + 1 => (FX5_condition (Fcc n).1 (Fcc n).2, FX5_comparison (Fcc n).1 (Fcc n).2)
theorem cFcc : ∀ n : Nat, (∀ {Q : Bool → Mem → Prop} {l0 : Nat} {l1 : Int32} {M : Mem}, SHk l0 = 5 → (Fcc n).1 Q l0 l1 M → xM yX5_condition cX5_condition 5 (some .boolean) (4 + n) [.ref l0, .int l1] M (xQb Q)) ∧ (∀ {Q : Bool → Mem → Prop} {l0 : Nat} {l1 : Int32} {M : Mem}, SHk l0 = 5 → (Fcc n).2 Q l0 l1 M → xM yX5_comparison cX5_comparison 4 (some .boolean) (4 + n) [.ref l0, .int l1] M (xQb Q))
  | 0 => ⟨fun _ h => False.elim h, fun _ h => False.elim h⟩
  | n + 1 => ⟨fun hk h => cX5_condition_ (cFcc n).1 (cFcc n).2 hk h, fun hk h => cX5_comparison_ (cFcc n).1 (cFcc n).2 hk h⟩
def FX5_cond (Q : Bool → Mem → Prop) (l0 : Nat) (l1 : Int32) (M : Mem) : Prop := (Fcc 20).1 Q l0 l1 M
theorem kX5_cond {own : String} {cc : ByteArray} {nL : Nat} {rt : Option FieldType} {d pc ix : Nat} {L : List (Nat × Value)} {st : List Value} {M : Mem} {Rt : xGt → Array Value → State → Outcome → State → Prop} {Q : Bool → Mem → Prop} {l0 : Nat} {l1 : Int32} (hd : decode cc pc = .ok (.invokevirtual ix, 3)) (q : Nat) (hq : pc + 3 = q) (hk_l0 : SHk l0 = 5) (w1 : Cond.methodLink own ix yX5_condition ∈ xTs) (hr : 24 < d) (hst : (st.map fun v => v.category).sum ≤ 8) (h : FX5_cond Q l0 l1 M) (k : ∀ (r : Bool) (N : Mem), Q r N → xX own cc nL rt d q L (.int (bI r) :: st) N Rt) : xX own cc nL rt d pc L (.int l1 :: .ref l0 :: st) M Rt :=
  x_callV_b (n := 1) (As := [.int l1]) hd q hq hk_l0 (by decide) rfl rfl w1 kw4_90 ks2_6 kw1_11 kw4_91 (by decide +kernel) rfl hr (by decide) hst _ rfl ((cFcc 20).1 hk_l0 h) k
