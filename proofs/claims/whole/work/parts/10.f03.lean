def NX5_lawLine_88 (Q : Bool → Mem → Prop) (l0 : Nat) (M : Mem) : Prop :=
  FX2_closeLine (fun (M1 : Mem) => FX5_take (fun (r3 : Bool) (M2 : Mem) => Q r3 M2) l0 59 M1) (l0 + 1) M
theorem nX5_lawLine_88 {Q : Bool → Mem → Prop} {l0 : Nat} {M : Mem} (hk_l0 : SHk l0 = 5) (h : NX5_lawLine_88 Q l0 M) : xX RX5 cX5_lawLine 2 (some .boolean) 25 88 [(0, .ref l0)] [] M (xQb Q) := by
  unfold NX5_lawLine_88 at h
  refine x_aload_n dX5_lawLine_88 rfl 89 rfl ?_
  refine gf5_0 dX5_lawLine_89 92 rfl hk_l0 kw2_90 ?_
  refine kX2_closeLine dX5_lawLine_92 95 rfl (ly5_0 hk_l0).1 kw4_100 (Nat.le_of_ble_eq_true rfl) (Nat.le_of_ble_eq_true rfl) h (fun M1 h => ?_)
  refine x_aload_n dX5_lawLine_95 rfl 96 rfl ?_
  refine x_bipush dX5_lawLine_96 kb_59 98 rfl ?_
  refine kX5_take dX5_lawLine_98 101 rfl hk_l0 kw4_96 (Nat.le_of_ble_eq_true rfl) (Nat.le_of_ble_eq_true rfl) h (fun r3 M2 h => ?_)
  exact x_zret dX5_lawLine_101 h
def NX5_lawLine_25 (Q : Bool → Mem → Prop) (l0 : Nat) (s0 : Int32) (M : Mem) : Prop :=
  FX5_begin (fun (r5 : Bool) (M4 : Mem) => ((r5 = true → FX2_openLine (fun (M6 : Mem) => FX5_sum (fun (r8 : Bool) (M7 : Mem) => ((r8 = true → FX2_markWhen (fun (M9 : Mem) => FX5_isWord (fun (r10 : Bool) => ((r10 = false → NX5_lawLine_88 Q l0 M9) ∧ (r10 = true → ∀ M11 : Mem, M11 = xu M9 l0 5 ((M9 l0 5) + 1) → FX5_cond (fun (r13 : Bool) (M12 : Mem) => ((r13 = true → NX5_lawLine_88 Q l0 M12) ∧ (r13 = false → Q false M12))) l0 0 M11))) l0 3 M9) (l0 + 1) M7) ∧ (r8 = false → Q false M7))) l0 M6) (l0 + 1) s0 M4) ∧ (r5 = false → Q false M4))) l0 s0 M
theorem nX5_lawLine_25 {Q : Bool → Mem → Prop} {l0 : Nat} {s0 : Int32} {M : Mem} (hk_l0 : SHk l0 = 5) (h : NX5_lawLine_25 Q l0 s0 M) : xX RX5 cX5_lawLine 2 (some .boolean) 25 25 [(0, .ref l0)] [.int s0] M (xQb Q) := by
  unfold NX5_lawLine_25 at h
  refine x_istore_n dX5_lawLine_25 (Nat.le_of_ble_eq_true rfl) [(0, .ref l0), (1, .int s0)] rfl 26 rfl ?_
  refine x_aload_n dX5_lawLine_26 rfl 27 rfl ?_
  refine x_iload_n dX5_lawLine_27 rfl 28 rfl ?_
  refine kX5_begin dX5_lawLine_28 31 rfl hk_l0 kw4_52 (Nat.le_of_ble_eq_true rfl) (Nat.le_of_ble_eq_true rfl) h (fun r5 M4 h => ?_)
  refine x_if_ne_b dX5_lawLine_31 36 34 rfl rfl (fun hc => ?_) (fun hc => ?_)
  · have h := h.1 hc
    refine x_aload_n dX5_lawLine_36 rfl 37 rfl ?_
    refine gf5_0 dX5_lawLine_37 40 rfl hk_l0 kw2_90 ?_
    refine x_iload_n dX5_lawLine_40 rfl 41 rfl ?_
    refine kX2_openLine dX5_lawLine_41 44 rfl (ly5_0 hk_l0).1 kw4_60 (Nat.le_of_ble_eq_true rfl) (Nat.le_of_ble_eq_true rfl) h (fun M6 h => ?_)
    refine x_aload_n dX5_lawLine_44 rfl 45 rfl ?_
    refine kX5_sum dX5_lawLine_45 48 rfl hk_l0 kw4_64 (Nat.le_of_ble_eq_true rfl) (Nat.le_of_ble_eq_true rfl) h (fun r8 M7 h => ?_)
    refine x_if_ne_b dX5_lawLine_48 53 51 rfl rfl (fun hc => ?_) (fun hc => ?_)
    · have h := h.1 hc
      refine x_aload_n dX5_lawLine_53 rfl 54 rfl ?_
      refine gf5_0 dX5_lawLine_54 57 rfl hk_l0 kw2_90 ?_
      refine kX2_markWhen dX5_lawLine_57 60 rfl (ly5_0 hk_l0).1 kw4_84 (Nat.le_of_ble_eq_true rfl) (Nat.le_of_ble_eq_true rfl) h (fun M9 h => ?_)
      refine x_aload_n dX5_lawLine_60 rfl 61 rfl ?_
      refine x_iconst dX5_lawLine_61 kc_3 62 rfl ?_
      refine kX5_isWord dX5_lawLine_62 65 rfl hk_l0 kw4_48 (Nat.le_of_ble_eq_true rfl) (Nat.le_of_ble_eq_true rfl) h (fun r10 h => ?_)
      refine x_if_eq_b dX5_lawLine_65 88 68 rfl rfl (fun hc => ?_) (fun hc => ?_)
      · have h := h.1 hc
        refine x_weak [(0, .ref l0)] [0] rfl ?_
        exact nX5_lawLine_88 hk_l0 h
      · have h := h.2 hc
        refine x_aload_n dX5_lawLine_68 rfl 69 rfl ?_
        refine x_dup dX5_lawLine_69 rfl 70 rfl ?_
        refine gf5_5 dX5_lawLine_70 73 rfl hk_l0 kw2_99 ?_
        refine x_iconst dX5_lawLine_73 kc_1 74 rfl ?_
        refine x_iadd dX5_lawLine_74 75 rfl ?_
        refine pf5_5 dX5_lawLine_75 78 rfl hk_l0 kw2_99 (x_mem (fun M11 hM11 => ?_))
        have h := h M11 hM11
        refine x_aload_n dX5_lawLine_78 rfl 79 rfl ?_
        refine x_iconst dX5_lawLine_79 kc_0 80 rfl ?_
        refine kX5_cond dX5_lawLine_80 83 rfl hk_l0 kw4_88 (Nat.le_of_ble_eq_true rfl) (Nat.le_of_ble_eq_true rfl) h (fun r13 M12 h => ?_)
        refine x_if_ne_b dX5_lawLine_83 88 86 rfl rfl (fun hc => ?_) (fun hc => ?_)
        · have h := h.1 hc
          refine x_weak [(0, .ref l0)] [0] rfl ?_
          exact nX5_lawLine_88 hk_l0 h
        · have h := h.2 hc
          refine x_iconst dX5_lawLine_86 kc_0 87 rfl ?_
          exact x_zret (z := false) dX5_lawLine_87 h
    · have h := h.2 hc
      refine x_iconst dX5_lawLine_51 kc_0 52 rfl ?_
      exact x_zret (z := false) dX5_lawLine_52 h
  · have h := h.2 hc
    refine x_iconst dX5_lawLine_34 kc_0 35 rfl ?_
    exact x_zret (z := false) dX5_lawLine_35 h
def FX5_lawLine (Q : Bool → Mem → Prop) (l0 : Nat) (M : Mem) : Prop :=
  FX5_isWord (fun (r14 : Bool) => ((r14 = false → FX5_isWord (fun (r15 : Bool) => ((r15 = false → NX5_lawLine_25 Q l0 2 M) ∧ (r15 = true → NX5_lawLine_25 Q l0 1 M))) l0 1 M) ∧ (r14 = true → NX5_lawLine_25 Q l0 0 M))) l0 0 M
theorem eX5_lawLine {Q : Bool → Mem → Prop} {l0 : Nat} {M : Mem} (hk_l0 : SHk l0 = 5) (h : FX5_lawLine Q l0 M) : xX RX5 cX5_lawLine 2 (some .boolean) 25 0 [(0, .ref l0)] [] M (xQb Q) := by
  unfold FX5_lawLine at h
  refine x_aload_n dX5_lawLine_0 rfl 1 rfl ?_
  refine x_iconst dX5_lawLine_1 kc_0 2 rfl ?_
  refine kX5_isWord dX5_lawLine_2 5 rfl hk_l0 kw4_48 (Nat.le_of_ble_eq_true rfl) (Nat.le_of_ble_eq_true rfl) h (fun r14 h => ?_)
  refine x_if_eq_b dX5_lawLine_5 12 8 rfl rfl (fun hc => ?_) (fun hc => ?_)
  · have h := h.1 hc
    refine x_aload_n dX5_lawLine_12 rfl 13 rfl ?_
    refine x_iconst dX5_lawLine_13 kc_1 14 rfl ?_
    refine kX5_isWord dX5_lawLine_14 17 rfl hk_l0 kw4_48 (Nat.le_of_ble_eq_true rfl) (Nat.le_of_ble_eq_true rfl) h (fun r15 h => ?_)
    refine x_if_eq_b dX5_lawLine_17 24 20 rfl rfl (fun hc => ?_) (fun hc => ?_)
    · have h := h.1 hc
      refine x_iconst dX5_lawLine_24 kc_2 25 rfl ?_
      exact nX5_lawLine_25 hk_l0 h
    · have h := h.2 hc
      refine x_iconst dX5_lawLine_20 kc_1 21 rfl ?_
      refine x_goto dX5_lawLine_21 25 rfl ?_
      exact nX5_lawLine_25 hk_l0 h
  · have h := h.2 hc
    refine x_iconst dX5_lawLine_8 kc_0 9 rfl ?_
    refine x_goto dX5_lawLine_9 25 rfl ?_
    exact nX5_lawLine_25 hk_l0 h
theorem cX5_lawLine_ {Q : Bool → Mem → Prop} {l0 : Nat} {M : Mem} (hk_l0 : SHk l0 = 5) (h : FX5_lawLine Q l0 M) : xM yX5_lawLine cX5_lawLine 2 (some .boolean) 25 [.ref l0] M (xQb Q) := xM_of (by decide +kernel) (Nat.le_of_ble_eq_true rfl) (eX5_lawLine hk_l0 h)
theorem kX5_lawLine {own : String} {cc : ByteArray} {nL : Nat} {rt : Option FieldType} {d pc ix : Nat} {L : List (Nat × Value)} {st : List Value} {M : Mem} {Rt : xGt → Array Value → State → Outcome → State → Prop} {Q : Bool → Mem → Prop} {l0 : Nat} (hd : decode cc pc = .ok (.invokevirtual ix, 3)) (q : Nat) (hq : pc + 3 = q) (hk_l0 : SHk l0 = 5) (w1 : Cond.methodLink own ix yX5_lawLine ∈ xTs) (hr : 25 < d) (hst : (st.map fun v => v.category).sum ≤ 8) (h : FX5_lawLine Q l0 M) (k : ∀ (r : Bool) (N : Mem), Q r N → xX own cc nL rt d q L (.int (bI r) :: st) N Rt) : xX own cc nL rt d pc L (.ref l0 :: st) M Rt :=
  x_callV_b (n := 0) (As := []) hd q hq hk_l0 (by decide) rfl rfl w1 kw4_46 ks1_14 kw1_11 kw4_47 (by decide +kernel) rfl hr (by decide) hst _ rfl (cX5_lawLine_ hk_l0 h) k
def NX5_planLine_45 (Q : Bool → Mem → Prop) (l0 : Nat) (M : Mem) : Prop :=
  FX5_refuse (fun (r2 : Bool) (M1 : Mem) => Q r2 M1) l0 1 M
theorem nX5_planLine_45 {Q : Bool → Mem → Prop} {l0 : Nat} {M : Mem} (hk_l0 : SHk l0 = 5) (h : NX5_planLine_45 Q l0 M) : xX RX5 cX5_planLine 5 (some .boolean) 4 45 [(0, .ref l0)] [] M (xQb Q) := by
  unfold NX5_planLine_45 at h
  refine x_aload_n dX5_planLine_45 rfl 46 rfl ?_
  refine x_iconst dX5_planLine_46 kc_1 47 rfl ?_
  refine kX5_refuse dX5_planLine_47 50 rfl hk_l0 kw4_56 (Nat.le_of_ble_eq_true rfl) (Nat.le_of_ble_eq_true rfl) h (fun r2 M1 h => ?_)
  exact x_zret dX5_planLine_50 h
def NX5_planLine_180 (Q : Bool → Mem → Prop) (l0 : Nat) (s0 : Nat) (s1 : Int32) (s2 : Int32) (s3 : Int32) (s4 : Int32) (M : Mem) : Prop :=
  FX4_add (fun (M3 : Mem) => FX5_take (fun (r5 : Bool) (M4 : Mem) => Q r5 M4) l0 59 M3) s0 s1 s2 s3 s4 M
theorem nX5_planLine_180 {Q : Bool → Mem → Prop} {l0 : Nat} {s0 : Nat} {s1 : Int32} {s2 : Int32} {s3 : Int32} {s4 : Int32} {M : Mem} (hk_l0 : SHk l0 = 5) (hk_s0 : SHk s0 = 4) (h : NX5_planLine_180 Q l0 s0 s1 s2 s3 s4 M) : xX RX5 cX5_planLine 5 (some .boolean) 4 180 [(0, .ref l0)] [.int s4, .int s3, .int s2, .int s1, .ref s0] M (xQb Q) := by
  unfold NX5_planLine_180 at h
  refine kX4_add dX5_planLine_180 183 rfl hk_s0 kw4_116 (Nat.le_of_ble_eq_true rfl) (Nat.le_of_ble_eq_true rfl) h (fun M3 h => ?_)
  refine x_aload_n dX5_planLine_183 rfl 184 rfl ?_
  refine x_bipush dX5_planLine_184 kb_59 186 rfl ?_
  refine kX5_take dX5_planLine_186 189 rfl hk_l0 kw4_96 (Nat.le_of_ble_eq_true rfl) (Nat.le_of_ble_eq_true rfl) h (fun r5 M4 h => ?_)
  exact x_zret dX5_planLine_189 h
def NX5_planLine_160 (Q : Bool → Mem → Prop) (l0 : Nat) (l1 : Int32) (l2 : Int32) (l3 : Int32) (l4 : Int32) (M : Mem) : Prop :=
  ((l4 = 0 → NX5_planLine_180 Q l0 (l0 + 11) l1 l2 l3 0 M) ∧ (¬ l4 = 0 → NX5_planLine_180 Q l0 (l0 + 11) l1 l2 l3 (M l0 6) M))
theorem nX5_planLine_160 {Q : Bool → Mem → Prop} {l0 : Nat} {l1 : Int32} {l2 : Int32} {l3 : Int32} {l4 : Int32} {M : Mem} (hk_l0 : SHk l0 = 5) (h : NX5_planLine_160 Q l0 l1 l2 l3 l4 M) : xX RX5 cX5_planLine 5 (some .boolean) 4 160 [(0, .ref l0), (1, .int l1), (2, .int l2), (3, .int l3), (4, .int l4)] [] M (xQb Q) := by
  unfold NX5_planLine_160 at h
  refine x_aload_n dX5_planLine_160 rfl 161 rfl ?_
  refine gf5_2 dX5_planLine_161 164 rfl hk_l0 kw2_94 ?_
  refine x_iload_n dX5_planLine_164 rfl 165 rfl ?_
  refine x_iload_n dX5_planLine_165 rfl 166 rfl ?_
  refine x_iload_n dX5_planLine_166 rfl 167 rfl ?_
  refine x_iload dX5_planLine_167 rfl 169 rfl ?_
  refine x_if_eq dX5_planLine_169 179 172 rfl rfl (fun hc => ?_) (fun hc => ?_)
  · have h := h.1 hc
    refine x_iconst dX5_planLine_179 kc_0 180 rfl ?_
    refine x_weak [(0, .ref l0)] [0] rfl ?_
    exact nX5_planLine_180 hk_l0 (ly5_2 hk_l0).1 h
  · have h := h.2 hc
    refine x_aload_n dX5_planLine_172 rfl 173 rfl ?_
    refine gf5_6 dX5_planLine_173 176 rfl hk_l0 kw2_100 ?_
    refine x_goto dX5_planLine_176 180 rfl ?_
    refine x_weak [(0, .ref l0)] [0] rfl ?_
    exact nX5_planLine_180 hk_l0 (ly5_2 hk_l0).1 h
def NX5_planLine_152 (Q : Bool → Mem → Prop) (l0 : Nat) (l1 : Int32) (l2 : Int32) (l3 : Int32) (l4 : Int32) (s0 : Nat) (s1 : Int32) (s2 : Int32) (M : Mem) : Prop :=
  FX5_number (fun (r7 : Bool) (M6 : Mem) => ((r7 = true → NX5_planLine_160 Q l0 l1 l2 l3 l4 M6) ∧ (r7 = false → Q false M6))) s0 s1 s2 M
theorem nX5_planLine_152 {Q : Bool → Mem → Prop} {l0 : Nat} {l1 : Int32} {l2 : Int32} {l3 : Int32} {l4 : Int32} {s0 : Nat} {s1 : Int32} {s2 : Int32} {M : Mem} (hk_l0 : SHk l0 = 5) (hk_s0 : SHk s0 = 5) (h : NX5_planLine_152 Q l0 l1 l2 l3 l4 s0 s1 s2 M) : xX RX5 cX5_planLine 5 (some .boolean) 4 152 [(0, .ref l0), (1, .int l1), (2, .int l2), (3, .int l3), (4, .int l4)] [.int s2, .int s1, .ref s0] M (xQb Q) := by
  unfold NX5_planLine_152 at h
  refine kX5_number dX5_planLine_152 155 rfl hk_s0 kw4_80 (Nat.le_of_ble_eq_true rfl) (Nat.le_of_ble_eq_true rfl) h (fun r7 M6 h => ?_)
  refine x_if_ne_b dX5_planLine_155 160 158 rfl rfl (fun hc => ?_) (fun hc => ?_)
  · have h := h.1 hc
    exact nX5_planLine_160 hk_l0 h
  · have h := h.2 hc
    refine x_iconst dX5_planLine_158 kc_0 159 rfl ?_
    exact x_zret (z := false) dX5_planLine_159 h
def NX5_planLine_139 (Q : Bool → Mem → Prop) (l0 : Nat) (l1 : Int32) (l2 : Int32) (l3 : Int32) (l4 : Int32) (s0 : Nat) (s1 : Int32) (M : Mem) : Prop :=
  ((¬ l2 = 1 → NX5_planLine_152 Q l0 l1 l2 l3 l4 s0 s1 99 M) ∧ (l2 = 1 → NX5_planLine_152 Q l0 l1 l2 l3 l4 s0 s1 999 M))
theorem nX5_planLine_139 {Q : Bool → Mem → Prop} {l0 : Nat} {l1 : Int32} {l2 : Int32} {l3 : Int32} {l4 : Int32} {s0 : Nat} {s1 : Int32} {M : Mem} (hk_l0 : SHk l0 = 5) (hk_s0 : SHk s0 = 5) (h : NX5_planLine_139 Q l0 l1 l2 l3 l4 s0 s1 M) : xX RX5 cX5_planLine 5 (some .boolean) 4 139 [(0, .ref l0), (1, .int l1), (2, .int l2), (3, .int l3), (4, .int l4)] [.int s1, .ref s0] M (xQb Q) := by
  unfold NX5_planLine_139 at h
  refine x_iload_n dX5_planLine_139 rfl 140 rfl ?_
  refine x_iconst dX5_planLine_140 kc_1 141 rfl ?_
  refine x_icmp_ne dX5_planLine_141 150 144 rfl rfl (fun hc => ?_) (fun hc => ?_)
  · have h := h.1 hc
    refine x_bipush dX5_planLine_150 kb_99 152 rfl ?_
    exact nX5_planLine_152 hk_l0 hk_s0 h
  · have h := h.2 hc
    refine x_sipush dX5_planLine_144 kh_999 147 rfl ?_
    refine x_goto dX5_planLine_147 152 rfl ?_
    exact nX5_planLine_152 hk_l0 hk_s0 h
def NX5_planLine_121 (Q : Bool → Mem → Prop) (l0 : Nat) (l1 : Int32) (l2 : Int32) (l3 : Int32) (s0 : Int32) (M : Mem) : Prop :=
  ((s0 = 0 → NX5_planLine_160 Q l0 l1 l2 l3 s0 M) ∧ (¬ s0 = 0 → ((¬ l2 = 4 → NX5_planLine_139 Q l0 l1 l2 l3 s0 l0 0 M) ∧ (l2 = 4 → NX5_planLine_139 Q l0 l1 l2 l3 s0 l0 1 M))))
theorem nX5_planLine_121 {Q : Bool → Mem → Prop} {l0 : Nat} {l1 : Int32} {l2 : Int32} {l3 : Int32} {s0 : Int32} {M : Mem} (hk_l0 : SHk l0 = 5) (h : NX5_planLine_121 Q l0 l1 l2 l3 s0 M) : xX RX5 cX5_planLine 5 (some .boolean) 4 121 [(0, .ref l0), (1, .int l1), (2, .int l2), (3, .int l3)] [.int s0] M (xQb Q) := by
  unfold NX5_planLine_121 at h
  refine x_istore dX5_planLine_121 (Nat.le_of_ble_eq_true rfl) [(0, .ref l0), (1, .int l1), (2, .int l2), (3, .int l3), (4, .int s0)] rfl 123 rfl ?_
  refine x_iload dX5_planLine_123 rfl 125 rfl ?_
  refine x_if_eq dX5_planLine_125 160 128 rfl rfl (fun hc => ?_) (fun hc => ?_)
  · have h := h.1 hc
    exact nX5_planLine_160 hk_l0 h
  · have h := h.2 hc
    refine x_aload_n dX5_planLine_128 rfl 129 rfl ?_
    refine x_iload_n dX5_planLine_129 rfl 130 rfl ?_
    refine x_iconst dX5_planLine_130 kc_4 131 rfl ?_
    refine x_icmp_ne dX5_planLine_131 138 134 rfl rfl (fun hc => ?_) (fun hc => ?_)
    · have h := h.1 hc
      refine x_iconst dX5_planLine_138 kc_0 139 rfl ?_
      exact nX5_planLine_139 hk_l0 hk_l0 h
    · have h := h.2 hc
      refine x_iconst dX5_planLine_134 kc_1 135 rfl ?_
      refine x_goto dX5_planLine_135 139 rfl ?_
      exact nX5_planLine_139 hk_l0 hk_l0 h
def NX5_planLine_120 (Q : Bool → Mem → Prop) (l0 : Nat) (l1 : Int32) (l2 : Int32) (l3 : Int32) (M : Mem) : Prop :=
  NX5_planLine_121 Q l0 l1 l2 l3 0 M
theorem nX5_planLine_120 {Q : Bool → Mem → Prop} {l0 : Nat} {l1 : Int32} {l2 : Int32} {l3 : Int32} {M : Mem} (hk_l0 : SHk l0 = 5) (h : NX5_planLine_120 Q l0 l1 l2 l3 M) : xX RX5 cX5_planLine 5 (some .boolean) 4 120 [(0, .ref l0), (1, .int l1), (2, .int l2), (3, .int l3)] [] M (xQb Q) := by
  unfold NX5_planLine_120 at h
  refine x_iconst dX5_planLine_120 kc_0 121 rfl ?_
  exact nX5_planLine_121 hk_l0 h
def NX5_planLine_106 (Q : Bool → Mem → Prop) (l0 : Nat) (l1 : Int32) (l2 : Int32) (l3 : Int32) (M : Mem) : Prop :=
  ((l2 = 3 → NX5_planLine_120 Q l0 l1 l2 l3 M) ∧ (¬ l2 = 3 → ((l2 = 5 → NX5_planLine_120 Q l0 l1 l2 l3 M) ∧ (¬ l2 = 5 → NX5_planLine_121 Q l0 l1 l2 l3 1 M))))
theorem nX5_planLine_106 {Q : Bool → Mem → Prop} {l0 : Nat} {l1 : Int32} {l2 : Int32} {l3 : Int32} {M : Mem} (hk_l0 : SHk l0 = 5) (h : NX5_planLine_106 Q l0 l1 l2 l3 M) : xX RX5 cX5_planLine 5 (some .boolean) 4 106 [(0, .ref l0), (1, .int l1), (2, .int l2), (3, .int l3)] [] M (xQb Q) := by
  unfold NX5_planLine_106 at h
  refine x_iload_n dX5_planLine_106 rfl 107 rfl ?_
  refine x_iconst dX5_planLine_107 kc_3 108 rfl ?_
  refine x_icmp_eq dX5_planLine_108 120 111 rfl rfl (fun hc => ?_) (fun hc => ?_)
  · have h := h.1 hc
    exact nX5_planLine_120 hk_l0 h
  · have h := h.2 hc
    refine x_iload_n dX5_planLine_111 rfl 112 rfl ?_
    refine x_iconst dX5_planLine_112 kc_5 113 rfl ?_
    refine x_icmp_eq dX5_planLine_113 120 116 rfl rfl (fun hc => ?_) (fun hc => ?_)
    · have h := h.1 hc
      exact nX5_planLine_120 hk_l0 h
    · have h := h.2 hc
      refine x_iconst dX5_planLine_116 kc_1 117 rfl ?_
      refine x_goto dX5_planLine_117 121 rfl ?_
      exact nX5_planLine_121 hk_l0 h
def NX5_planLine_91 (Q : Bool → Mem → Prop) (l0 : Nat) (l1 : Int32) (l2 : Int32) (s0 : Nat) (s1 : Int32) (s2 : Int32) (M : Mem) : Prop :=
  FX5_number (fun (r9 : Bool) (M8 : Mem) => ((r9 = true → NX5_planLine_106 Q l0 l1 l2 (M8 l0 6) M8) ∧ (r9 = false → Q false M8))) s0 s1 (s2 - 1) M
theorem nX5_planLine_91 {Q : Bool → Mem → Prop} {l0 : Nat} {l1 : Int32} {l2 : Int32} {s0 : Nat} {s1 : Int32} {s2 : Int32} {M : Mem} (hk_l0 : SHk l0 = 5) (hk_s0 : SHk s0 = 5) (h : NX5_planLine_91 Q l0 l1 l2 s0 s1 s2 M) : xX RX5 cX5_planLine 5 (some .boolean) 4 91 [(0, .ref l0), (1, .int l1), (2, .int l2)] [.int s2, .int s1, .ref s0] M (xQb Q) := by
  unfold NX5_planLine_91 at h
  refine x_iconst dX5_planLine_91 kc_1 92 rfl ?_
  refine x_isub dX5_planLine_92 93 rfl ?_
  refine kX5_number dX5_planLine_93 96 rfl hk_s0 kw4_80 (Nat.le_of_ble_eq_true rfl) (Nat.le_of_ble_eq_true rfl) h (fun r9 M8 h => ?_)
  refine x_if_ne_b dX5_planLine_96 101 99 rfl rfl (fun hc => ?_) (fun hc => ?_)
  · have h := h.1 hc
    refine x_aload_n dX5_planLine_101 rfl 102 rfl ?_
    refine gf5_6 dX5_planLine_102 105 rfl hk_l0 kw2_100 ?_
    refine x_istore_n dX5_planLine_105 (Nat.le_of_ble_eq_true rfl) [(0, .ref l0), (1, .int l1), (2, .int l2), (3, .int (M8 l0 6))] rfl 106 rfl ?_
    exact nX5_planLine_106 hk_l0 h
  · have h := h.2 hc
    refine x_iconst dX5_planLine_99 kc_0 100 rfl ?_
    exact x_zret (z := false) dX5_planLine_100 h
def FX5_planLine (Q : Bool → Mem → Prop) (l0 : Nat) (M : Mem) : Prop :=
  FX5_begin (fun (r11 : Bool) (M10 : Mem) => ((r11 = false → Q false M10) ∧ (r11 = true → FX5_number (fun (r13 : Bool) (M12 : Mem) => ((r13 = true → FX5_kind (fun (r14 : Int32) => (((r14 - 300) < 1 → NX5_planLine_45 Q l0 M12) ∧ (¬ (r14 - 300) < 1 → (((r14 - 300) ≤ 5 → ∀ M15 : Mem, M15 = xu M12 l0 5 ((M12 l0 5) + 1) → (((r14 - 300) = 1 → NX5_planLine_106 Q l0 (M12 l0 6) (r14 - 300) (-1) M15) ∧ (¬ (r14 - 300) = 1 → (((r14 - 300) = 2 → NX5_planLine_106 Q l0 (M12 l0 6) (r14 - 300) (-1) M15) ∧ (¬ (r14 - 300) = 2 → ((¬ (r14 - 300) = 4 → NX5_planLine_91 Q l0 (M12 l0 6) (r14 - 300) l0 0 (M15 l0 9) M15) ∧ ((r14 - 300) = 4 → NX5_planLine_91 Q l0 (M12 l0 6) (r14 - 300) l0 0 (M15 l0 8) M15))))))) ∧ (¬ (r14 - 300) ≤ 5 → NX5_planLine_45 Q l0 M12))))) l0 M12) ∧ (r13 = false → Q false M12))) l0 0 999 M10))) l0 0 M
theorem eX5_planLine {Q : Bool → Mem → Prop} {l0 : Nat} {M : Mem} (hk_l0 : SHk l0 = 5) (h : FX5_planLine Q l0 M) : xX RX5 cX5_planLine 5 (some .boolean) 4 0 [(0, .ref l0)] [] M (xQb Q) := by
  unfold FX5_planLine at h
  refine x_aload_n dX5_planLine_0 rfl 1 rfl ?_
  refine x_iconst dX5_planLine_1 kc_0 2 rfl ?_
  refine kX5_begin dX5_planLine_2 5 rfl hk_l0 kw4_52 (Nat.le_of_ble_eq_true rfl) (Nat.le_of_ble_eq_true rfl) h (fun r11 M10 h => ?_)
  refine x_if_eq_b dX5_planLine_5 19 8 rfl rfl (fun hc => ?_) (fun hc => ?_)
  · have h := h.1 hc
    refine x_iconst dX5_planLine_19 kc_0 20 rfl ?_
    exact x_zret (z := false) dX5_planLine_20 h
  · have h := h.2 hc
    refine x_aload_n dX5_planLine_8 rfl 9 rfl ?_
    refine x_iconst dX5_planLine_9 kc_0 10 rfl ?_
    refine x_sipush dX5_planLine_10 kh_999 13 rfl ?_
    refine kX5_number dX5_planLine_13 16 rfl hk_l0 kw4_80 (Nat.le_of_ble_eq_true rfl) (Nat.le_of_ble_eq_true rfl) h (fun r13 M12 h => ?_)
    refine x_if_ne_b dX5_planLine_16 21 19 rfl rfl (fun hc => ?_) (fun hc => ?_)
    · have h := h.1 hc
      refine x_aload_n dX5_planLine_21 rfl 22 rfl ?_
      refine gf5_6 dX5_planLine_22 25 rfl hk_l0 kw2_100 ?_
      refine x_istore_n dX5_planLine_25 (Nat.le_of_ble_eq_true rfl) [(0, .ref l0), (1, .int (M12 l0 6))] rfl 26 rfl ?_
      refine x_aload_n dX5_planLine_26 rfl 27 rfl ?_
      refine kX5_kind dX5_planLine_27 30 rfl hk_l0 kw4_40 (Nat.le_of_ble_eq_true rfl) (Nat.le_of_ble_eq_true rfl) h (fun r14 h => ?_)
      refine x_sipush dX5_planLine_30 kh_300 33 rfl ?_
      refine x_isub dX5_planLine_33 34 rfl ?_
      refine x_istore_n dX5_planLine_34 (Nat.le_of_ble_eq_true rfl) [(0, .ref l0), (1, .int (M12 l0 6)), (2, .int (r14 - 300))] rfl 35 rfl ?_
      refine x_iload_n dX5_planLine_35 rfl 36 rfl ?_
      refine x_iconst dX5_planLine_36 kc_1 37 rfl ?_
      refine x_icmp_lt dX5_planLine_37 45 40 rfl rfl (fun hc => ?_) (fun hc => ?_)
      · have h := h.1 hc
        refine x_weak [(0, .ref l0)] [0] rfl ?_
        exact nX5_planLine_45 hk_l0 h
      · have h := h.2 hc
        refine x_iload_n dX5_planLine_40 rfl 41 rfl ?_
        refine x_iconst dX5_planLine_41 kc_5 42 rfl ?_
        refine x_icmp_le dX5_planLine_42 51 45 rfl rfl (fun hc => ?_) (fun hc => ?_)
        · have h := h.1 hc
          refine x_aload_n dX5_planLine_51 rfl 52 rfl ?_
          refine x_dup dX5_planLine_52 rfl 53 rfl ?_
          refine gf5_5 dX5_planLine_53 56 rfl hk_l0 kw2_99 ?_
          refine x_iconst dX5_planLine_56 kc_1 57 rfl ?_
          refine x_iadd dX5_planLine_57 58 rfl ?_
          refine pf5_5 dX5_planLine_58 61 rfl hk_l0 kw2_99 (x_mem (fun M15 hM15 => ?_))
          have h := h M15 hM15
          refine x_iconst dX5_planLine_61 kc_m1 62 rfl ?_
          refine x_istore_n dX5_planLine_62 (Nat.le_of_ble_eq_true rfl) [(0, .ref l0), (1, .int (M12 l0 6)), (2, .int (r14 - 300)), (3, .int (-1))] rfl 63 rfl ?_
          refine x_iload_n dX5_planLine_63 rfl 64 rfl ?_
          refine x_iconst dX5_planLine_64 kc_1 65 rfl ?_
          refine x_icmp_eq dX5_planLine_65 106 68 rfl rfl (fun hc => ?_) (fun hc => ?_)
          · have h := h.1 hc
            exact nX5_planLine_106 hk_l0 h
          · have h := h.2 hc
            refine x_iload_n dX5_planLine_68 rfl 69 rfl ?_
            refine x_iconst dX5_planLine_69 kc_2 70 rfl ?_
            refine x_icmp_eq dX5_planLine_70 106 73 rfl rfl (fun hc => ?_) (fun hc => ?_)
            · have h := h.1 hc
              exact nX5_planLine_106 hk_l0 h
            · have h := h.2 hc
              refine x_aload_n dX5_planLine_73 rfl 74 rfl ?_
              refine x_iconst dX5_planLine_74 kc_0 75 rfl ?_
              refine x_iload_n dX5_planLine_75 rfl 76 rfl ?_
              refine x_iconst dX5_planLine_76 kc_4 77 rfl ?_
              refine x_icmp_ne dX5_planLine_77 87 80 rfl rfl (fun hc => ?_) (fun hc => ?_)
              · have h := h.1 hc
                refine x_aload_n dX5_planLine_87 rfl 88 rfl ?_
                refine gf5_9 dX5_planLine_88 91 rfl hk_l0 kw2_103 ?_
                refine x_weak [(0, .ref l0), (1, .int (M12 l0 6)), (2, .int (r14 - 300))] [0, 1, 2] rfl ?_
                exact nX5_planLine_91 hk_l0 hk_l0 h
              · have h := h.2 hc
                refine x_aload_n dX5_planLine_80 rfl 81 rfl ?_
                refine gf5_8 dX5_planLine_81 84 rfl hk_l0 kw2_102 ?_
                refine x_goto dX5_planLine_84 91 rfl ?_
                refine x_weak [(0, .ref l0), (1, .int (M12 l0 6)), (2, .int (r14 - 300))] [0, 1, 2] rfl ?_
                exact nX5_planLine_91 hk_l0 hk_l0 h
        · have h := h.2 hc
          refine x_weak [(0, .ref l0)] [0] rfl ?_
          exact nX5_planLine_45 hk_l0 h
    · have h := h.2 hc
      refine x_iconst dX5_planLine_19 kc_0 20 rfl ?_
      exact x_zret (z := false) dX5_planLine_20 h
theorem cX5_planLine_ {Q : Bool → Mem → Prop} {l0 : Nat} {M : Mem} (hk_l0 : SHk l0 = 5) (h : FX5_planLine Q l0 M) : xM yX5_planLine cX5_planLine 5 (some .boolean) 4 [.ref l0] M (xQb Q) := xM_of (by decide +kernel) (Nat.le_of_ble_eq_true rfl) (eX5_planLine hk_l0 h)
theorem kX5_planLine {own : String} {cc : ByteArray} {nL : Nat} {rt : Option FieldType} {d pc ix : Nat} {L : List (Nat × Value)} {st : List Value} {M : Mem} {Rt : xGt → Array Value → State → Outcome → State → Prop} {Q : Bool → Mem → Prop} {l0 : Nat} (hd : decode cc pc = .ok (.invokevirtual ix, 3)) (q : Nat) (hq : pc + 3 = q) (hk_l0 : SHk l0 = 5) (w1 : Cond.methodLink own ix yX5_planLine ∈ xTs) (hr : 4 < d) (hst : (st.map fun v => v.category).sum ≤ 8) (h : FX5_planLine Q l0 M) (k : ∀ (r : Bool) (N : Mem), Q r N → xX own cc nL rt d q L (.int (bI r) :: st) N Rt) : xX own cc nL rt d pc L (.ref l0 :: st) M Rt :=
  x_callV_b (n := 0) (As := []) hd q hq hk_l0 (by decide) rfl rfl w1 kw4_114 ks2_10 kw1_11 kw4_115 (by decide +kernel) rfl hr (by decide) hst _ rfl (cX5_planLine_ hk_l0 h) k
def FX6_add (Q : Mem → Prop) (l0 : Nat) (l1 : Int32) (l2 : Int32) (M : Mem) : Prop :=
  ((16 ≤ (M l0 2) → Q M) ∧ (¬ 16 ≤ (M l0 2) → vp_in (M l0 2) 16 ∧ ∀ M1 : Mem, M1 = xu M (l0 + 1) (ix (M l0 2)) l1 → vp_in (M1 l0 2) 16 ∧ ∀ M2 : Mem, M2 = xu M1 (l0 + 2) (ix (M1 l0 2)) l2 → ∀ M3 : Mem, M3 = xu M2 l0 2 ((M2 l0 2) + 1) → Q M3))
theorem eX6_add {Q : Mem → Prop} {l0 : Nat} {l1 : Int32} {l2 : Int32} {M : Mem} (hk_l0 : SHk l0 = 6) (h : FX6_add Q l0 l1 l2 M) : xX RX6 cX6_add 3 none 1 0 [(0, .ref l0), (1, .int l1), (2, .int l2)] [] M (xQv Q) := by
  unfold FX6_add at h
  refine x_aload_n dX6_add_0 rfl 1 rfl ?_
  refine gf6_2 dX6_add_1 4 rfl hk_l0 kw1_177 ?_
  refine x_bipush dX6_add_4 kb_16 6 rfl ?_
  refine x_icmp_ge dX6_add_6 39 9 rfl rfl (fun hc => ?_) (fun hc => ?_)
  · have h := h.1 hc
    exact x_vret dX6_add_39 h
  · have h := h.2 hc
    refine x_aload_n dX6_add_9 rfl 10 rfl ?_
    refine gf6_0 dX6_add_10 13 rfl hk_l0 kw1_175 ?_
    refine x_aload_n dX6_add_13 rfl 14 rfl ?_
    refine gf6_2 dX6_add_14 17 rfl hk_l0 kw1_177 ?_
    refine x_iload_n dX6_add_17 rfl 18 rfl ?_
    obtain ⟨hin, h⟩ := h
    refine x_iastore dX6_add_18 (ly6_0 hk_l0) hin 19 rfl (x_mem (fun M1 hM1 => ?_))
    have h := h M1 hM1
    refine x_aload_n dX6_add_19 rfl 20 rfl ?_
    refine gf6_1 dX6_add_20 23 rfl hk_l0 kw1_176 ?_
    refine x_aload_n dX6_add_23 rfl 24 rfl ?_
    refine gf6_2 dX6_add_24 27 rfl hk_l0 kw1_177 ?_
    refine x_iload_n dX6_add_27 rfl 28 rfl ?_
    obtain ⟨hin, h⟩ := h
    refine x_iastore dX6_add_28 (ly6_1 hk_l0) hin 29 rfl (x_mem (fun M2 hM2 => ?_))
    have h := h M2 hM2
    refine x_aload_n dX6_add_29 rfl 30 rfl ?_
    refine x_dup dX6_add_30 rfl 31 rfl ?_
    refine gf6_2 dX6_add_31 34 rfl hk_l0 kw1_177 ?_
    refine x_iconst dX6_add_34 kc_1 35 rfl ?_
    refine x_iadd dX6_add_35 36 rfl ?_
    refine pf6_2 dX6_add_36 39 rfl hk_l0 kw1_177 (x_mem (fun M3 hM3 => ?_))
    have h := h M3 hM3
    exact x_vret dX6_add_39 h
theorem cX6_add_ {Q : Mem → Prop} {l0 : Nat} {l1 : Int32} {l2 : Int32} {M : Mem} (hk_l0 : SHk l0 = 6) (h : FX6_add Q l0 l1 l2 M) : xM yX6_add cX6_add 3 none 1 [.ref l0, .int l1, .int l2] M (xQv Q) := xM_of (by decide +kernel) (Nat.le_of_ble_eq_true rfl) (eX6_add hk_l0 h)
theorem kX6_add {own : String} {cc : ByteArray} {nL : Nat} {rt : Option FieldType} {d pc ix : Nat} {L : List (Nat × Value)} {st : List Value} {M : Mem} {Rt : xGt → Array Value → State → Outcome → State → Prop} {Q : Mem → Prop} {l0 : Nat} {l1 : Int32} {l2 : Int32} (hd : decode cc pc = .ok (.invokevirtual ix, 3)) (q : Nat) (hq : pc + 3 = q) (hk_l0 : SHk l0 = 6) (w1 : Cond.methodLink own ix yX6_add ∈ xTs) (hr : 1 < d) (hst : (st.map fun v => v.category).sum ≤ 8) (h : FX6_add Q l0 l1 l2 M) (k : ∀ (N : Mem), Q N → xX own cc nL rt d q L st N Rt) : xX own cc nL rt d pc L (.int l2 :: .int l1 :: .ref l0 :: st) M Rt :=
  x_callV_v (n := 2) (As := [.int l1, .int l2]) hd q hq hk_l0 (by decide) rfl rfl w1 kw4_109 kw4_110 kw1_6 kw4_111 (by decide +kernel) rfl hr (by decide) hst _ rfl (cX6_add_ hk_l0 h) k
def FX5_skyLine (Q : Bool → Mem → Prop) (l0 : Nat) (M : Mem) : Prop :=
  FX5_begin (fun (r2 : Bool) (M1 : Mem) => ((r2 = false → Q false M1) ∧ (r2 = true → FX5_number (fun (r4 : Bool) (M3 : Mem) => ((r4 = true → FX5_take (fun (r6 : Bool) (M5 : Mem) => ((r6 = false → Q false M5) ∧ (r6 = true → FX5_number (fun (r8 : Bool) (M7 : Mem) => ((r8 = true → FX6_add (fun (M9 : Mem) => FX5_take (fun (r11 : Bool) (M10 : Mem) => Q r11 M10) l0 59 M9) (l0 + 8) (M3 l0 6) (M7 l0 6) M7) ∧ (r8 = false → Q false M7))) l0 0 9 M5))) l0 301 M3) ∧ (r4 = false → Q false M3))) l0 0 999 M1))) l0 0 M
theorem eX5_skyLine {Q : Bool → Mem → Prop} {l0 : Nat} {M : Mem} (hk_l0 : SHk l0 = 5) (h : FX5_skyLine Q l0 M) : xX RX5 cX5_skyLine 2 (some .boolean) 4 0 [(0, .ref l0)] [] M (xQb Q) := by
  unfold FX5_skyLine at h
  refine x_aload_n dX5_skyLine_0 rfl 1 rfl ?_
  refine x_iconst dX5_skyLine_1 kc_0 2 rfl ?_
  refine kX5_begin dX5_skyLine_2 5 rfl hk_l0 kw4_52 (Nat.le_of_ble_eq_true rfl) (Nat.le_of_ble_eq_true rfl) h (fun r2 M1 h => ?_)
  refine x_if_eq_b dX5_skyLine_5 19 8 rfl rfl (fun hc => ?_) (fun hc => ?_)
  · have h := h.1 hc
    refine x_iconst dX5_skyLine_19 kc_0 20 rfl ?_
    exact x_zret (z := false) dX5_skyLine_20 h
  · have h := h.2 hc
    refine x_aload_n dX5_skyLine_8 rfl 9 rfl ?_
    refine x_iconst dX5_skyLine_9 kc_0 10 rfl ?_
    refine x_sipush dX5_skyLine_10 kh_999 13 rfl ?_
    refine kX5_number dX5_skyLine_13 16 rfl hk_l0 kw4_80 (Nat.le_of_ble_eq_true rfl) (Nat.le_of_ble_eq_true rfl) h (fun r4 M3 h => ?_)
    refine x_if_ne_b dX5_skyLine_16 21 19 rfl rfl (fun hc => ?_) (fun hc => ?_)
    · have h := h.1 hc
      refine x_aload_n dX5_skyLine_21 rfl 22 rfl ?_
      refine gf5_6 dX5_skyLine_22 25 rfl hk_l0 kw2_100 ?_
      refine x_istore_n dX5_skyLine_25 (Nat.le_of_ble_eq_true rfl) [(0, .ref l0), (1, .int (M3 l0 6))] rfl 26 rfl ?_
      refine x_aload_n dX5_skyLine_26 rfl 27 rfl ?_
      refine x_sipush dX5_skyLine_27 kh_301 30 rfl ?_
      refine kX5_take dX5_skyLine_30 33 rfl hk_l0 kw4_96 (Nat.le_of_ble_eq_true rfl) (Nat.le_of_ble_eq_true rfl) h (fun r6 M5 h => ?_)
      refine x_if_eq_b dX5_skyLine_33 46 36 rfl rfl (fun hc => ?_) (fun hc => ?_)
      · have h := h.1 hc
        refine x_iconst dX5_skyLine_46 kc_0 47 rfl ?_
        exact x_zret (z := false) dX5_skyLine_47 h
      · have h := h.2 hc
        refine x_aload_n dX5_skyLine_36 rfl 37 rfl ?_
        refine x_iconst dX5_skyLine_37 kc_0 38 rfl ?_
        refine x_bipush dX5_skyLine_38 kb_9 40 rfl ?_
        refine kX5_number dX5_skyLine_40 43 rfl hk_l0 kw4_80 (Nat.le_of_ble_eq_true rfl) (Nat.le_of_ble_eq_true rfl) h (fun r8 M7 h => ?_)
        refine x_if_ne_b dX5_skyLine_43 48 46 rfl rfl (fun hc => ?_) (fun hc => ?_)
        · have h := h.1 hc
          refine x_aload_n dX5_skyLine_48 rfl 49 rfl ?_
          refine gf5_1 dX5_skyLine_49 52 rfl hk_l0 kw2_92 ?_
          refine x_iload_n dX5_skyLine_52 rfl 53 rfl ?_
          refine x_aload_n dX5_skyLine_53 rfl 54 rfl ?_
          refine gf5_6 dX5_skyLine_54 57 rfl hk_l0 kw2_100 ?_
          refine kX6_add dX5_skyLine_57 60 rfl (ly5_1 hk_l0).1 kw4_108 (Nat.le_of_ble_eq_true rfl) (Nat.le_of_ble_eq_true rfl) h (fun M9 h => ?_)
          refine x_aload_n dX5_skyLine_60 rfl 61 rfl ?_
          refine x_bipush dX5_skyLine_61 kb_59 63 rfl ?_
          refine kX5_take dX5_skyLine_63 66 rfl hk_l0 kw4_96 (Nat.le_of_ble_eq_true rfl) (Nat.le_of_ble_eq_true rfl) h (fun r11 M10 h => ?_)
          exact x_zret dX5_skyLine_66 h
        · have h := h.2 hc
          refine x_iconst dX5_skyLine_46 kc_0 47 rfl ?_
          exact x_zret (z := false) dX5_skyLine_47 h
    · have h := h.2 hc
      refine x_iconst dX5_skyLine_19 kc_0 20 rfl ?_
      exact x_zret (z := false) dX5_skyLine_20 h
theorem cX5_skyLine_ {Q : Bool → Mem → Prop} {l0 : Nat} {M : Mem} (hk_l0 : SHk l0 = 5) (h : FX5_skyLine Q l0 M) : xM yX5_skyLine cX5_skyLine 2 (some .boolean) 4 [.ref l0] M (xQb Q) := xM_of (by decide +kernel) (Nat.le_of_ble_eq_true rfl) (eX5_skyLine hk_l0 h)
theorem kX5_skyLine {own : String} {cc : ByteArray} {nL : Nat} {rt : Option FieldType} {d pc ix : Nat} {L : List (Nat × Value)} {st : List Value} {M : Mem} {Rt : xGt → Array Value → State → Outcome → State → Prop} {Q : Bool → Mem → Prop} {l0 : Nat} (hd : decode cc pc = .ok (.invokevirtual ix, 3)) (q : Nat) (hq : pc + 3 = q) (hk_l0 : SHk l0 = 5) (w1 : Cond.methodLink own ix yX5_skyLine ∈ xTs) (hr : 4 < d) (hst : (st.map fun v => v.category).sum ≤ 8) (h : FX5_skyLine Q l0 M) (k : ∀ (r : Bool) (N : Mem), Q r N → xX own cc nL rt d q L (.int (bI r) :: st) N Rt) : xX own cc nL rt d pc L (.ref l0 :: st) M Rt :=
  x_callV_b (n := 0) (As := []) hd q hq hk_l0 (by decide) rfl rfl w1 kw4_106 ks2_9 kw1_11 kw4_107 (by decide +kernel) rfl hr (by decide) hst _ rfl (cX5_skyLine_ hk_l0 h) k
def FX7_add (Q : Mem → Prop) (l0 : Nat) (l1 : Int32) (l2 : Int32) (M : Mem) : Prop :=
  ((16 ≤ (M l0 2) → Q M) ∧ (¬ 16 ≤ (M l0 2) → vp_in (M l0 2) 16 ∧ ∀ M1 : Mem, M1 = xu M (l0 + 1) (ix (M l0 2)) l1 → vp_in (M1 l0 2) 16 ∧ ∀ M2 : Mem, M2 = xu M1 (l0 + 2) (ix (M1 l0 2)) l2 → ∀ M3 : Mem, M3 = xu M2 l0 2 ((M2 l0 2) + 1) → Q M3))
theorem eX7_add {Q : Mem → Prop} {l0 : Nat} {l1 : Int32} {l2 : Int32} {M : Mem} (hk_l0 : SHk l0 = 7) (h : FX7_add Q l0 l1 l2 M) : xX RX7 cX7_add 3 none 1 0 [(0, .ref l0), (1, .int l1), (2, .int l2)] [] M (xQv Q) := by
  unfold FX7_add at h
  refine x_aload_n dX7_add_0 rfl 1 rfl ?_
  refine gf7_2 dX7_add_1 4 rfl hk_l0 kw1_219 ?_
  refine x_bipush dX7_add_4 kb_16 6 rfl ?_
  refine x_icmp_ge dX7_add_6 39 9 rfl rfl (fun hc => ?_) (fun hc => ?_)
  · have h := h.1 hc
    exact x_vret dX7_add_39 h
  · have h := h.2 hc
    refine x_aload_n dX7_add_9 rfl 10 rfl ?_
    refine gf7_0 dX7_add_10 13 rfl hk_l0 kw1_217 ?_
    refine x_aload_n dX7_add_13 rfl 14 rfl ?_
    refine gf7_2 dX7_add_14 17 rfl hk_l0 kw1_219 ?_
    refine x_iload_n dX7_add_17 rfl 18 rfl ?_
    obtain ⟨hin, h⟩ := h
    refine x_iastore dX7_add_18 (ly7_0 hk_l0) hin 19 rfl (x_mem (fun M1 hM1 => ?_))
    have h := h M1 hM1
    refine x_aload_n dX7_add_19 rfl 20 rfl ?_
    refine gf7_1 dX7_add_20 23 rfl hk_l0 kw1_218 ?_
    refine x_aload_n dX7_add_23 rfl 24 rfl ?_
    refine gf7_2 dX7_add_24 27 rfl hk_l0 kw1_219 ?_
    refine x_iload_n dX7_add_27 rfl 28 rfl ?_
    obtain ⟨hin, h⟩ := h
    refine x_iastore dX7_add_28 (ly7_1 hk_l0) hin 29 rfl (x_mem (fun M2 hM2 => ?_))
    have h := h M2 hM2
    refine x_aload_n dX7_add_29 rfl 30 rfl ?_
    refine x_dup dX7_add_30 rfl 31 rfl ?_
    refine gf7_2 dX7_add_31 34 rfl hk_l0 kw1_219 ?_
    refine x_iconst dX7_add_34 kc_1 35 rfl ?_
    refine x_iadd dX7_add_35 36 rfl ?_
    refine pf7_2 dX7_add_36 39 rfl hk_l0 kw1_219 (x_mem (fun M3 hM3 => ?_))
    have h := h M3 hM3
    exact x_vret dX7_add_39 h
theorem cX7_add_ {Q : Mem → Prop} {l0 : Nat} {l1 : Int32} {l2 : Int32} {M : Mem} (hk_l0 : SHk l0 = 7) (h : FX7_add Q l0 l1 l2 M) : xM yX7_add cX7_add 3 none 1 [.ref l0, .int l1, .int l2] M (xQv Q) := xM_of (by decide +kernel) (Nat.le_of_ble_eq_true rfl) (eX7_add hk_l0 h)
theorem kX7_add {own : String} {cc : ByteArray} {nL : Nat} {rt : Option FieldType} {d pc ix : Nat} {L : List (Nat × Value)} {st : List Value} {M : Mem} {Rt : xGt → Array Value → State → Outcome → State → Prop} {Q : Mem → Prop} {l0 : Nat} {l1 : Int32} {l2 : Int32} (hd : decode cc pc = .ok (.invokevirtual ix, 3)) (q : Nat) (hq : pc + 3 = q) (hk_l0 : SHk l0 = 7) (w1 : Cond.methodLink own ix yX7_add ∈ xTs) (hr : 1 < d) (hst : (st.map fun v => v.category).sum ≤ 8) (h : FX7_add Q l0 l1 l2 M) (k : ∀ (N : Mem), Q N → xX own cc nL rt d q L st N Rt) : xX own cc nL rt d pc L (.int l2 :: .int l1 :: .ref l0 :: st) M Rt :=
  x_callV_v (n := 2) (As := [.int l1, .int l2]) hd q hq hk_l0 (by decide) rfl rfl w1 kw4_125 kw4_126 kw1_8 kw4_127 (by decide +kernel) rfl hr (by decide) hst _ rfl (cX7_add_ hk_l0 h) k
def NX5_tenetLine_107 (Q : Bool → Mem → Prop) (l0 : Nat) (l1 : Int32) (M : Mem) : Prop :=
  FX5_take (fun (r2 : Bool) (M1 : Mem) => ((r2 = false → Q false M1) ∧ (r2 = true → FX5_number (fun (r4 : Bool) (M3 : Mem) => ((r4 = true → FX7_add (fun (M5 : Mem) => FX5_take (fun (r7 : Bool) (M6 : Mem) => Q r7 M6) l0 59 M5) (l0 + 16) l1 ((1 : Int32) <<< ((M3 l0 6) &&& 31)) M3) ∧ (r4 = false → Q false M3))) l0 0 15 M1))) l0 301 M
theorem nX5_tenetLine_107 {Q : Bool → Mem → Prop} {l0 : Nat} {l1 : Int32} {M : Mem} (hk_l0 : SHk l0 = 5) (h : NX5_tenetLine_107 Q l0 l1 M) : xX RX5 cX5_tenetLine 3 (some .boolean) 3 107 [(0, .ref l0), (1, .int l1)] [] M (xQb Q) := by
  unfold NX5_tenetLine_107 at h
  refine x_aload_n dX5_tenetLine_107 rfl 108 rfl ?_
  refine x_sipush dX5_tenetLine_108 kh_301 111 rfl ?_
  refine kX5_take dX5_tenetLine_111 114 rfl hk_l0 kw4_96 (Nat.le_of_ble_eq_true rfl) (Nat.le_of_ble_eq_true rfl) h (fun r2 M1 h => ?_)
  refine x_if_eq_b dX5_tenetLine_114 127 117 rfl rfl (fun hc => ?_) (fun hc => ?_)
  · have h := h.1 hc
    refine x_iconst dX5_tenetLine_127 kc_0 128 rfl ?_
    exact x_zret (z := false) dX5_tenetLine_128 h
  · have h := h.2 hc
    refine x_aload_n dX5_tenetLine_117 rfl 118 rfl ?_
    refine x_iconst dX5_tenetLine_118 kc_0 119 rfl ?_
    refine x_bipush dX5_tenetLine_119 kb_15 121 rfl ?_
    refine kX5_number dX5_tenetLine_121 124 rfl hk_l0 kw4_80 (Nat.le_of_ble_eq_true rfl) (Nat.le_of_ble_eq_true rfl) h (fun r4 M3 h => ?_)
    refine x_if_ne_b dX5_tenetLine_124 129 127 rfl rfl (fun hc => ?_) (fun hc => ?_)
    · have h := h.1 hc
      refine x_aload_n dX5_tenetLine_129 rfl 130 rfl ?_
      refine gf5_3 dX5_tenetLine_130 133 rfl hk_l0 kw2_96 ?_
      refine x_iload_n dX5_tenetLine_133 rfl 134 rfl ?_
      refine x_iconst dX5_tenetLine_134 kc_1 135 rfl ?_
      refine x_aload_n dX5_tenetLine_135 rfl 136 rfl ?_
      refine gf5_6 dX5_tenetLine_136 139 rfl hk_l0 kw2_100 ?_
      refine x_ishl dX5_tenetLine_139 140 rfl ?_
      refine kX7_add dX5_tenetLine_140 143 rfl (ly5_3 hk_l0).1 kw4_124 (Nat.le_of_ble_eq_true rfl) (Nat.le_of_ble_eq_true rfl) h (fun M5 h => ?_)
      refine x_aload_n dX5_tenetLine_143 rfl 144 rfl ?_
      refine x_bipush dX5_tenetLine_144 kb_59 146 rfl ?_
      refine kX5_take dX5_tenetLine_146 149 rfl hk_l0 kw4_96 (Nat.le_of_ble_eq_true rfl) (Nat.le_of_ble_eq_true rfl) h (fun r7 M6 h => ?_)
      exact x_zret dX5_tenetLine_149 h
    · have h := h.2 hc
      refine x_iconst dX5_tenetLine_127 kc_0 128 rfl ?_
      exact x_zret (z := false) dX5_tenetLine_128 h
def lbX5_tenetLine_55 (Q : Bool → Mem → Prop) (l0 : Nat) (B55 : Int32 → Int32 → Mem → Prop) (l1 : Int32) (l2 : Int32) (M : Mem) : Prop :=
  ((400 ≤ l2 → NX5_tenetLine_107 Q l0 l1 M) ∧ (¬ 400 ≤ l2 → FX5_isWord (fun (r8 : Bool) => ((r8 = false → NX5_tenetLine_107 Q l0 l1 M) ∧ (r8 = true → ∀ M9 : Mem, M9 = xu M l0 5 ((M l0 5) + 1) → FX5_number (fun (r11 : Bool) (M10 : Mem) => ((r11 = true → ∀ y12 : Int32, y12 = l1 ||| ((1 : Int32) <<< ((M10 l0 6) &&& 31)) → B55 y12 (l2 + 1) M10) ∧ (r11 = false → Q false M10))) l0 0 15 M9))) l0 0 M))
def NX5_tenetLine_55 (Q : Bool → Mem → Prop) (l0 : Nat) (l1 : Int32) (l2 : Int32) (M : Mem) : Prop := xlp (fun (B : Int32 × Int32 × Mem → Prop) a => lbX5_tenetLine_55 Q l0 (fun l1 l2 M => B (l1, l2, M)) a.1 a.2.1 a.2.2) (l1, l2, M)
theorem nX5_tenetLine_55 {Q : Bool → Mem → Prop} {l0 : Nat} {l1 : Int32} {l2 : Int32} {M : Mem} (hk_l0 : SHk l0 = 5) (h : NX5_tenetLine_55 Q l0 l1 l2 M) : xX RX5 cX5_tenetLine 3 (some .boolean) 3 55 [(0, .ref l0), (1, .int l1), (2, .int l2)] [] M (xQb Q) := by
  obtain ⟨n, h⟩ := h
  have hB55 : ∀ (n : Nat) (l1 : Int32) (l2 : Int32) (M : Mem), xlpn (fun (B : Int32 × Int32 × Mem → Prop) a => lbX5_tenetLine_55 Q l0 (fun l1 l2 M => B (l1, l2, M)) a.1 a.2.1 a.2.2) n (l1, l2, M) → xX RX5 cX5_tenetLine 3 (some .boolean) 3 55 [(0, .ref l0), (1, .int l1), (2, .int l2)] [] M (xQb Q) := by
    intro n
    induction n with
    | zero => intro l1 l2 M h; exact False.elim h
    | succ n ih =>
      intro l1 l2 M h
      have hB55 := ih
      have h : lbX5_tenetLine_55 Q l0 (fun l1 l2 M => xlpn (fun (B : Int32 × Int32 × Mem → Prop) a => lbX5_tenetLine_55 Q l0 (fun l1 l2 M => B (l1, l2, M)) a.1 a.2.1 a.2.2) n (l1, l2, M)) l1 l2 M := h
      unfold lbX5_tenetLine_55 at h
      refine x_iload_n dX5_tenetLine_55 rfl 56 rfl ?_
      refine x_sipush dX5_tenetLine_56 kh_400 59 rfl ?_
      refine x_icmp_ge dX5_tenetLine_59 107 62 rfl rfl (fun hc => ?_) (fun hc => ?_)
      · have h := h.1 hc
        refine x_weak [(0, .ref l0), (1, .int l1)] [0, 1] rfl ?_
        exact nX5_tenetLine_107 hk_l0 h
      · have h := h.2 hc
        refine x_aload_n dX5_tenetLine_62 rfl 63 rfl ?_
        refine x_iconst dX5_tenetLine_63 kc_0 64 rfl ?_
        refine kX5_isWord dX5_tenetLine_64 67 rfl hk_l0 kw4_48 (Nat.le_of_ble_eq_true rfl) (Nat.le_of_ble_eq_true rfl) h (fun r8 h => ?_)
        refine x_if_eq_b dX5_tenetLine_67 107 70 rfl rfl (fun hc => ?_) (fun hc => ?_)
        · have h := h.1 hc
          refine x_weak [(0, .ref l0), (1, .int l1)] [0, 1] rfl ?_
          exact nX5_tenetLine_107 hk_l0 h
        · have h := h.2 hc
          refine x_aload_n dX5_tenetLine_70 rfl 71 rfl ?_
          refine x_dup dX5_tenetLine_71 rfl 72 rfl ?_
          refine gf5_5 dX5_tenetLine_72 75 rfl hk_l0 kw2_99 ?_
          refine x_iconst dX5_tenetLine_75 kc_1 76 rfl ?_
          refine x_iadd dX5_tenetLine_76 77 rfl ?_
          refine pf5_5 dX5_tenetLine_77 80 rfl hk_l0 kw2_99 (x_mem (fun M9 hM9 => ?_))
          have h := h M9 hM9
          refine x_aload_n dX5_tenetLine_80 rfl 81 rfl ?_
          refine x_iconst dX5_tenetLine_81 kc_0 82 rfl ?_
          refine x_bipush dX5_tenetLine_82 kb_15 84 rfl ?_
          refine kX5_number dX5_tenetLine_84 87 rfl hk_l0 kw4_80 (Nat.le_of_ble_eq_true rfl) (Nat.le_of_ble_eq_true rfl) h (fun r11 M10 h => ?_)
          refine x_if_ne_b dX5_tenetLine_87 92 90 rfl rfl (fun hc => ?_) (fun hc => ?_)
          · have h := h.1 hc
            refine x_iload_n dX5_tenetLine_92 rfl 93 rfl ?_
            refine x_iconst dX5_tenetLine_93 kc_1 94 rfl ?_
            refine x_aload_n dX5_tenetLine_94 rfl 95 rfl ?_
            refine gf5_6 dX5_tenetLine_95 98 rfl hk_l0 kw2_100 ?_
            refine x_ishl dX5_tenetLine_98 99 rfl ?_
            refine x_ior dX5_tenetLine_99 100 rfl ?_
            refine x_top (fun y12 hy12 => ?_)
            have h := h y12 hy12
            refine x_istore_n dX5_tenetLine_100 (Nat.le_of_ble_eq_true rfl) [(0, .ref l0), (1, .int y12), (2, .int l2)] rfl 101 rfl ?_
            refine x_iinc dX5_tenetLine_101 rfl (congrArg (l2 + ·) kc_1) (Nat.le_of_ble_eq_true rfl) [(0, .ref l0), (1, .int y12), (2, .int (l2 + 1))] rfl 104 rfl ?_
            refine x_goto dX5_tenetLine_104 55 rfl ?_
            exact hB55 _ _ _ h
          · have h := h.2 hc
            refine x_iconst dX5_tenetLine_90 kc_0 91 rfl ?_
            exact x_zret (z := false) dX5_tenetLine_91 h
  exact hB55 n l1 l2 M h
def NX5_tenetLine_34 (Q : Bool → Mem → Prop) (l0 : Nat) (M : Mem) : Prop :=
  FX5_number (fun (r14 : Bool) (M13 : Mem) => ((r14 = true → ∀ y15 : Int32, y15 = (1 : Int32) <<< ((M13 l0 6) &&& 31) → NX5_tenetLine_55 Q l0 y15 0 M13) ∧ (r14 = false → Q false M13))) l0 0 15 M
theorem nX5_tenetLine_34 {Q : Bool → Mem → Prop} {l0 : Nat} {M : Mem} (hk_l0 : SHk l0 = 5) (h : NX5_tenetLine_34 Q l0 M) : xX RX5 cX5_tenetLine 3 (some .boolean) 3 34 [(0, .ref l0)] [] M (xQb Q) := by
  unfold NX5_tenetLine_34 at h
  refine x_aload_n dX5_tenetLine_34 rfl 35 rfl ?_
  refine x_iconst dX5_tenetLine_35 kc_0 36 rfl ?_
  refine x_bipush dX5_tenetLine_36 kb_15 38 rfl ?_
  refine kX5_number dX5_tenetLine_38 41 rfl hk_l0 kw4_80 (Nat.le_of_ble_eq_true rfl) (Nat.le_of_ble_eq_true rfl) h (fun r14 M13 h => ?_)
  refine x_if_ne_b dX5_tenetLine_41 46 44 rfl rfl (fun hc => ?_) (fun hc => ?_)
  · have h := h.1 hc
    refine x_iconst dX5_tenetLine_46 kc_1 47 rfl ?_
    refine x_aload_n dX5_tenetLine_47 rfl 48 rfl ?_
    refine gf5_6 dX5_tenetLine_48 51 rfl hk_l0 kw2_100 ?_
    refine x_ishl dX5_tenetLine_51 52 rfl ?_
    refine x_top (fun y15 hy15 => ?_)
    have h := h y15 hy15
    refine x_istore_n dX5_tenetLine_52 (Nat.le_of_ble_eq_true rfl) [(0, .ref l0), (1, .int y15)] rfl 53 rfl ?_
    refine x_iconst dX5_tenetLine_53 kc_0 54 rfl ?_
    refine x_istore_n dX5_tenetLine_54 (Nat.le_of_ble_eq_true rfl) [(0, .ref l0), (1, .int y15), (2, .int 0)] rfl 55 rfl ?_
    exact nX5_tenetLine_55 hk_l0 h
  · have h := h.2 hc
    refine x_iconst dX5_tenetLine_44 kc_0 45 rfl ?_
    exact x_zret (z := false) dX5_tenetLine_45 h
def FX5_tenetLine (Q : Bool → Mem → Prop) (l0 : Nat) (M : Mem) : Prop :=
  (((M l0 7) < 16 → NX5_tenetLine_34 Q l0 M) ∧ (¬ (M l0 7) < 16 → FX5_kind (fun (r16 : Int32) => ((¬ r16 = 201 → NX5_tenetLine_34 Q l0 M) ∧ (r16 = 201 → FX5_numberHere (fun (r17 : Int32) => ((16 ≤ r17 → NX5_tenetLine_34 Q l0 M) ∧ (¬ 16 ≤ r17 → FX5_refuse (fun (r19 : Bool) (M18 : Mem) => Q r19 M18) l0 3 M))) l0 M))) l0 M))
theorem eX5_tenetLine {Q : Bool → Mem → Prop} {l0 : Nat} {M : Mem} (hk_l0 : SHk l0 = 5) (h : FX5_tenetLine Q l0 M) : xX RX5 cX5_tenetLine 3 (some .boolean) 3 0 [(0, .ref l0)] [] M (xQb Q) := by
  unfold FX5_tenetLine at h
  refine x_aload_n dX5_tenetLine_0 rfl 1 rfl ?_
  refine gf5_7 dX5_tenetLine_1 4 rfl hk_l0 kw2_101 ?_
  refine x_bipush dX5_tenetLine_4 kb_16 6 rfl ?_
  refine x_icmp_lt dX5_tenetLine_6 34 9 rfl rfl (fun hc => ?_) (fun hc => ?_)
  · have h := h.1 hc
    exact nX5_tenetLine_34 hk_l0 h
  · have h := h.2 hc
    refine x_aload_n dX5_tenetLine_9 rfl 10 rfl ?_
    refine kX5_kind dX5_tenetLine_10 13 rfl hk_l0 kw4_40 (Nat.le_of_ble_eq_true rfl) (Nat.le_of_ble_eq_true rfl) h (fun r16 h => ?_)
    refine x_sipush dX5_tenetLine_13 kh_201 16 rfl ?_
    refine x_icmp_ne dX5_tenetLine_16 34 19 rfl rfl (fun hc => ?_) (fun hc => ?_)
    · have h := h.1 hc
      exact nX5_tenetLine_34 hk_l0 h
    · have h := h.2 hc
      refine x_aload_n dX5_tenetLine_19 rfl 20 rfl ?_
      refine kX5_numberHere dX5_tenetLine_20 23 rfl hk_l0 kw4_72 (Nat.le_of_ble_eq_true rfl) (Nat.le_of_ble_eq_true rfl) h (fun r17 h => ?_)
      refine x_bipush dX5_tenetLine_23 kb_16 25 rfl ?_
      refine x_icmp_ge dX5_tenetLine_25 34 28 rfl rfl (fun hc => ?_) (fun hc => ?_)
      · have h := h.1 hc
        exact nX5_tenetLine_34 hk_l0 h
      · have h := h.2 hc
        refine x_aload_n dX5_tenetLine_28 rfl 29 rfl ?_
        refine x_iconst dX5_tenetLine_29 kc_3 30 rfl ?_
        refine kX5_refuse dX5_tenetLine_30 33 rfl hk_l0 kw4_56 (Nat.le_of_ble_eq_true rfl) (Nat.le_of_ble_eq_true rfl) h (fun r19 M18 h => ?_)
        exact x_zret dX5_tenetLine_33 h
theorem cX5_tenetLine_ {Q : Bool → Mem → Prop} {l0 : Nat} {M : Mem} (hk_l0 : SHk l0 = 5) (h : FX5_tenetLine Q l0 M) : xM yX5_tenetLine cX5_tenetLine 3 (some .boolean) 3 [.ref l0] M (xQb Q) := xM_of (by decide +kernel) (Nat.le_of_ble_eq_true rfl) (eX5_tenetLine hk_l0 h)
theorem kX5_tenetLine {own : String} {cc : ByteArray} {nL : Nat} {rt : Option FieldType} {d pc ix : Nat} {L : List (Nat × Value)} {st : List Value} {M : Mem} {Rt : xGt → Array Value → State → Outcome → State → Prop} {Q : Bool → Mem → Prop} {l0 : Nat} (hd : decode cc pc = .ok (.invokevirtual ix, 3)) (q : Nat) (hq : pc + 3 = q) (hk_l0 : SHk l0 = 5) (w1 : Cond.methodLink own ix yX5_tenetLine ∈ xTs) (hr : 3 < d) (hst : (st.map fun v => v.category).sum ≤ 8) (h : FX5_tenetLine Q l0 M) (k : ∀ (r : Bool) (N : Mem), Q r N → xX own cc nL rt d q L (.int (bI r) :: st) N Rt) : xX own cc nL rt d pc L (.ref l0 :: st) M Rt :=
  x_callV_b (n := 0) (As := []) hd q hq hk_l0 (by decide) rfl rfl w1 kw4_122 ks2_11 kw1_11 kw4_123 (by decide +kernel) rfl hr (by decide) hst _ rfl (cX5_tenetLine_ hk_l0 h) k
def FX5_wordsOf (Q : Nat → Prop) (l0 : Int32) (M : Mem) : Prop :=
  ((l0 = 0 → Q 1000) ∧ (l0 = 1 → Q 1001) ∧ (l0 = 2 → Q 1002) ∧ (¬ l0 = 0 → ¬ l0 = 1 → ¬ l0 = 2 → Q 1003))
theorem eX5_wordsOf {Q : Nat → Prop} {l0 : Int32} {M : Mem} (h : FX5_wordsOf Q l0 M) : xX RX5 cX5_wordsOf 1 (some (.object "java/lang/String")) 1 0 [(0, .int l0)] [] M (xQr (xP M Q)) := by
  unfold FX5_wordsOf at h
  refine x_iload_n dX5_wordsOf_0 rfl 1 rfl ?_
  by_cases hc0 : l0 = 0
  · refine x_tab_at dX5_wordsOf_1 hc0 (by decide) (by decide) rfl (tg := 28) rfl ?_
    have h := h.1 hc0
    refine x_ldcs0 dX5_wordsOf_28 30 rfl ?_
    exact x_aret dX5_wordsOf_30 (Or.inl ⟨_, rfl⟩) ⟨rfl, h⟩
  by_cases hc1 : l0 = 1
  · refine x_tab_at dX5_wordsOf_1 hc1 (by decide) (by decide) rfl (tg := 31) rfl ?_
    have h := h.2.1 hc1
    refine x_ldcs1 dX5_wordsOf_31 33 rfl ?_
    exact x_aret dX5_wordsOf_33 (Or.inl ⟨_, rfl⟩) ⟨rfl, h⟩
  by_cases hc2 : l0 = 2
  · refine x_tab_at dX5_wordsOf_1 hc2 (by decide) (by decide) rfl (tg := 34) rfl ?_
    have h := h.2.2.1 hc2
    refine x_ldcs2 dX5_wordsOf_34 36 rfl ?_
    exact x_aret dX5_wordsOf_36 (Or.inl ⟨_, rfl⟩) ⟨rfl, h⟩
  have h := h.2.2.2 hc0 hc1 hc2
  refine x_tab_out dX5_wordsOf_1 (by have a0 := lv_neT hc0 (a := 0) (by decide); have a1 := lv_neT hc1 (a := 1) (by decide); have a2 := lv_neT hc2 (a := 2) (by decide); show (l0 : Int32).toInt < 0 ∨ 2 < (l0 : Int32).toInt; omega) (tg := 37) rfl ?_
  refine x_ldcs3 dX5_wordsOf_37 39 rfl ?_
  exact x_aret dX5_wordsOf_39 (Or.inl ⟨_, rfl⟩) ⟨rfl, h⟩
theorem cX5_wordsOf_ {Q : Nat → Prop} {l0 : Int32} {M : Mem} (h : FX5_wordsOf Q l0 M) : xM yX5_wordsOf cX5_wordsOf 1 (some (.object "java/lang/String")) 1 [.int l0] M (xQr (xP M Q)) := xM_of (by decide +kernel) (Nat.le_of_ble_eq_true rfl) (eX5_wordsOf h)
theorem kX5_wordsOf {own : String} {cc : ByteArray} {nL : Nat} {rt : Option FieldType} {d pc ix : Nat} {L : List (Nat × Value)} {st : List Value} {M : Mem} {Rt : xGt → Array Value → State → Outcome → State → Prop} {Q : Nat → Prop} {l0 : Int32} (hd : decode cc pc = .ok (.invokestatic ix, 3)) (q : Nat) (hq : pc + 3 = q) (w1 : Cond.methodLink own ix yX5_wordsOf ∈ xTs) (hr : 1 < d) (hst : (st.map fun v => v.category).sum ≤ 8) (h : FX5_wordsOf Q l0 M) (k : ∀ (r : Nat), Q r → xX own cc nL rt d q L (.ref r :: st) M Rt) : xX own cc nL rt d pc L (.int l0 :: st) M Rt :=
  x_callS_r (n := 1) (As := [.int l0]) hd q hq w1 kw3_195 kw1_11 kw3_196 (by decide +kernel) rfl hr (by decide) hst _ rfl (cX5_wordsOf_ h) (fun r N hN => by obtain ⟨rfl, hN⟩ := hN; exact k r hN)
def FX8_add (Q : Mem → Prop) (l0 : Nat) (l1 : Int32) (l2 : Int32) (l3 : Int32) (M : Mem) : Prop :=
  ((401 ≤ (M l0 3) → Q M) ∧ (¬ 401 ≤ (M l0 3) → vp_in (M l0 3) 401 ∧ ∀ M1 : Mem, M1 = xu M (l0 + 1) (ix (M l0 3)) l1 → vp_in (M1 l0 3) 401 ∧ ∀ M2 : Mem, M2 = xu M1 (l0 + 2) (ix (M1 l0 3)) l2 → vp_in (M2 l0 3) 401 ∧ ∀ M3 : Mem, M3 = xu M2 (l0 + 3) (ix (M2 l0 3)) l3 → ∀ M4 : Mem, M4 = xu M3 l0 3 ((M3 l0 3) + 1) → Q M4))
theorem eX8_add {Q : Mem → Prop} {l0 : Nat} {l1 : Int32} {l2 : Int32} {l3 : Int32} {M : Mem} (hk_l0 : SHk l0 = 8) (h : FX8_add Q l0 l1 l2 l3 M) : xX RX8 cX8_add 4 none 1 0 [(0, .ref l0), (1, .int l1), (2, .int l2), (3, .int l3)] [] M (xQv Q) := by
  unfold FX8_add at h
  refine x_aload_n dX8_add_0 rfl 1 rfl ?_
  refine gf8_3 dX8_add_1 4 rfl hk_l0 kw2_79 ?_
  refine x_aload_n dX8_add_4 rfl 5 rfl ?_
  refine gf8_0 dX8_add_5 8 rfl hk_l0 kw2_73 ?_
  refine x_alen (n := 401) dX8_add_8 (ly8_0 hk_l0) (by decide) 9 rfl ?_
  refine x_icmp_ge dX8_add_9 52 12 rfl rfl (fun hc => ?_) (fun hc => ?_)
  · have h := h.1 hc
    exact x_vret dX8_add_52 h
  · have h := h.2 hc
    refine x_aload_n dX8_add_12 rfl 13 rfl ?_
    refine gf8_0 dX8_add_13 16 rfl hk_l0 kw2_73 ?_
    refine x_aload_n dX8_add_16 rfl 17 rfl ?_
    refine gf8_3 dX8_add_17 20 rfl hk_l0 kw2_79 ?_
    refine x_iload_n dX8_add_20 rfl 21 rfl ?_
    obtain ⟨hin, h⟩ := h
    refine x_iastore dX8_add_21 (ly8_0 hk_l0) hin 22 rfl (x_mem (fun M1 hM1 => ?_))
    have h := h M1 hM1
    refine x_aload_n dX8_add_22 rfl 23 rfl ?_
    refine gf8_1 dX8_add_23 26 rfl hk_l0 kw2_75 ?_
    refine x_aload_n dX8_add_26 rfl 27 rfl ?_
    refine gf8_3 dX8_add_27 30 rfl hk_l0 kw2_79 ?_
    refine x_iload_n dX8_add_30 rfl 31 rfl ?_
    obtain ⟨hin, h⟩ := h
    refine x_iastore dX8_add_31 (ly8_1 hk_l0) hin 32 rfl (x_mem (fun M2 hM2 => ?_))
    have h := h M2 hM2
    refine x_aload_n dX8_add_32 rfl 33 rfl ?_
    refine gf8_2 dX8_add_33 36 rfl hk_l0 kw2_77 ?_
    refine x_aload_n dX8_add_36 rfl 37 rfl ?_
    refine gf8_3 dX8_add_37 40 rfl hk_l0 kw2_79 ?_
    refine x_iload_n dX8_add_40 rfl 41 rfl ?_
    obtain ⟨hin, h⟩ := h
    refine x_iastore dX8_add_41 (ly8_2 hk_l0) hin 42 rfl (x_mem (fun M3 hM3 => ?_))
    have h := h M3 hM3
    refine x_aload_n dX8_add_42 rfl 43 rfl ?_
    refine x_dup dX8_add_43 rfl 44 rfl ?_
    refine gf8_3 dX8_add_44 47 rfl hk_l0 kw2_79 ?_
    refine x_iconst dX8_add_47 kc_1 48 rfl ?_
    refine x_iadd dX8_add_48 49 rfl ?_
    refine pf8_3 dX8_add_49 52 rfl hk_l0 kw2_79 (x_mem (fun M4 hM4 => ?_))
    have h := h M4 hM4
    exact x_vret dX8_add_52 h
theorem cX8_add_ {Q : Mem → Prop} {l0 : Nat} {l1 : Int32} {l2 : Int32} {l3 : Int32} {M : Mem} (hk_l0 : SHk l0 = 8) (h : FX8_add Q l0 l1 l2 l3 M) : xM yX8_add cX8_add 4 none 1 [.ref l0, .int l1, .int l2, .int l3] M (xQv Q) := xM_of (by decide +kernel) (Nat.le_of_ble_eq_true rfl) (eX8_add hk_l0 h)
theorem kX8_add {own : String} {cc : ByteArray} {nL : Nat} {rt : Option FieldType} {d pc ix : Nat} {L : List (Nat × Value)} {st : List Value} {M : Mem} {Rt : xGt → Array Value → State → Outcome → State → Prop} {Q : Mem → Prop} {l0 : Nat} {l1 : Int32} {l2 : Int32} {l3 : Int32} (hd : decode cc pc = .ok (.invokevirtual ix, 3)) (q : Nat) (hq : pc + 3 = q) (hk_l0 : SHk l0 = 8) (w1 : Cond.methodLink own ix yX8_add ∈ xTs) (hr : 1 < d) (hst : (st.map fun v => v.category).sum ≤ 8) (h : FX8_add Q l0 l1 l2 l3 M) (k : ∀ (N : Mem), Q N → xX own cc nL rt d q L st N Rt) : xX own cc nL rt d pc L (.int l3 :: .int l2 :: .int l1 :: .ref l0 :: st) M Rt :=
  x_callV_v (n := 3) (As := [.int l1, .int l2, .int l3]) hd q hq hk_l0 (by decide) rfl rfl w1 kw4_31 ks1_12 kw1_12 kw4_32 (by decide +kernel) rfl hr (by decide) hst _ rfl (cX8_add_ hk_l0 h) k
def FX8_isDigit (Q : Bool → Prop) (l0 : Int32) (M : Mem) : Prop :=
  ((l0 < 48 → Q false) ∧ (¬ l0 < 48 → ((57 < l0 → Q false) ∧ (¬ 57 < l0 → Q true))))
theorem eX8_isDigit {Q : Bool → Prop} {l0 : Int32} {M : Mem} (h : FX8_isDigit Q l0 M) : xX RX8 cX8_isDigit 1 (some .boolean) 1 0 [(0, .int l0)] [] M (xQb (xP M Q)) := by
  unfold FX8_isDigit at h
  refine x_iload_n dX8_isDigit_0 rfl 1 rfl ?_
  refine x_bipush dX8_isDigit_1 kb_48 3 rfl ?_
  refine x_icmp_lt dX8_isDigit_3 16 6 rfl rfl (fun hc => ?_) (fun hc => ?_)
  · have h := h.1 hc
    refine x_iconst dX8_isDigit_16 kc_0 17 rfl ?_
    exact x_zret (z := false) dX8_isDigit_17 ⟨rfl, h⟩
  · have h := h.2 hc
    refine x_iload_n dX8_isDigit_6 rfl 7 rfl ?_
    refine x_bipush dX8_isDigit_7 kb_57 9 rfl ?_
    refine x_icmp_gt dX8_isDigit_9 16 12 rfl rfl (fun hc => ?_) (fun hc => ?_)
    · have h := h.1 hc
      refine x_iconst dX8_isDigit_16 kc_0 17 rfl ?_
      exact x_zret (z := false) dX8_isDigit_17 ⟨rfl, h⟩
    · have h := h.2 hc
      refine x_iconst dX8_isDigit_12 kc_1 13 rfl ?_
      refine x_goto dX8_isDigit_13 17 rfl ?_
      exact x_zret (z := true) dX8_isDigit_17 ⟨rfl, h⟩
theorem cX8_isDigit_ {Q : Bool → Prop} {l0 : Int32} {M : Mem} (h : FX8_isDigit Q l0 M) : xM yX8_isDigit cX8_isDigit 1 (some .boolean) 1 [.int l0] M (xQb (xP M Q)) := xM_of (by decide +kernel) (Nat.le_of_ble_eq_true rfl) (eX8_isDigit h)
theorem kX8_isDigit {own : String} {cc : ByteArray} {nL : Nat} {rt : Option FieldType} {d pc ix : Nat} {L : List (Nat × Value)} {st : List Value} {M : Mem} {Rt : xGt → Array Value → State → Outcome → State → Prop} {Q : Bool → Prop} {l0 : Int32} (hd : decode cc pc = .ok (.invokestatic ix, 3)) (q : Nat) (hq : pc + 3 = q) (w1 : Cond.methodLink own ix yX8_isDigit ∈ xTs) (hr : 1 < d) (hst : (st.map fun v => v.category).sum ≤ 8) (h : FX8_isDigit Q l0 M) (k : ∀ (r : Bool), Q r → xX own cc nL rt d q L (.int (bI r) :: st) M Rt) : xX own cc nL rt d pc L (.int l0 :: st) M Rt :=
  x_callS_b (n := 1) (As := [.int l0]) hd q hq w1 kw3_215 kw1_12 kw3_216 (by decide +kernel) rfl hr (by decide) hst _ rfl (cX8_isDigit_ h) (fun r N hN => by obtain ⟨rfl, hN⟩ := hN; exact k r hN)
def NX8_isLetter_12 (Q : Bool → Prop) (l0 : Int32) (M : Mem) : Prop :=
  ((l0 < 65 → Q false) ∧ (¬ l0 < 65 → ((90 < l0 → Q false) ∧ (¬ 90 < l0 → Q true))))
theorem nX8_isLetter_12 {Q : Bool → Prop} {l0 : Int32} {M : Mem} (h : NX8_isLetter_12 Q l0 M) : xX RX8 cX8_isLetter 1 (some .boolean) 1 12 [(0, .int l0)] [] M (xQb (xP M Q)) := by
  unfold NX8_isLetter_12 at h
  refine x_iload_n dX8_isLetter_12 rfl 13 rfl ?_
  refine x_bipush dX8_isLetter_13 kb_65 15 rfl ?_
  refine x_icmp_lt dX8_isLetter_15 28 18 rfl rfl (fun hc => ?_) (fun hc => ?_)
  · have h := h.1 hc
    refine x_iconst dX8_isLetter_28 kc_0 29 rfl ?_
    exact x_zret (z := false) dX8_isLetter_29 ⟨rfl, h⟩
  · have h := h.2 hc
    refine x_iload_n dX8_isLetter_18 rfl 19 rfl ?_
    refine x_bipush dX8_isLetter_19 kb_90 21 rfl ?_
    refine x_icmp_gt dX8_isLetter_21 28 24 rfl rfl (fun hc => ?_) (fun hc => ?_)
    · have h := h.1 hc
      refine x_iconst dX8_isLetter_28 kc_0 29 rfl ?_
      exact x_zret (z := false) dX8_isLetter_29 ⟨rfl, h⟩
    · have h := h.2 hc
      refine x_iconst dX8_isLetter_24 kc_1 25 rfl ?_
      refine x_goto dX8_isLetter_25 29 rfl ?_
      exact x_zret (z := true) dX8_isLetter_29 ⟨rfl, h⟩
def FX8_isLetter (Q : Bool → Prop) (l0 : Int32) (M : Mem) : Prop :=
  ((l0 < 97 → NX8_isLetter_12 Q l0 M) ∧ (¬ l0 < 97 → ((l0 ≤ 122 → Q true) ∧ (¬ l0 ≤ 122 → NX8_isLetter_12 Q l0 M))))
theorem eX8_isLetter {Q : Bool → Prop} {l0 : Int32} {M : Mem} (h : FX8_isLetter Q l0 M) : xX RX8 cX8_isLetter 1 (some .boolean) 1 0 [(0, .int l0)] [] M (xQb (xP M Q)) := by
  unfold FX8_isLetter at h
  refine x_iload_n dX8_isLetter_0 rfl 1 rfl ?_
  refine x_bipush dX8_isLetter_1 kb_97 3 rfl ?_
  refine x_icmp_lt dX8_isLetter_3 12 6 rfl rfl (fun hc => ?_) (fun hc => ?_)
  · have h := h.1 hc
    exact nX8_isLetter_12 h
  · have h := h.2 hc
    refine x_iload_n dX8_isLetter_6 rfl 7 rfl ?_
    refine x_bipush dX8_isLetter_7 kb_122 9 rfl ?_
    refine x_icmp_le dX8_isLetter_9 24 12 rfl rfl (fun hc => ?_) (fun hc => ?_)
    · have h := h.1 hc
      refine x_iconst dX8_isLetter_24 kc_1 25 rfl ?_
      refine x_goto dX8_isLetter_25 29 rfl ?_
      exact x_zret (z := true) dX8_isLetter_29 ⟨rfl, h⟩
    · have h := h.2 hc
      exact nX8_isLetter_12 h
theorem cX8_isLetter_ {Q : Bool → Prop} {l0 : Int32} {M : Mem} (h : FX8_isLetter Q l0 M) : xM yX8_isLetter cX8_isLetter 1 (some .boolean) 1 [.int l0] M (xQb (xP M Q)) := xM_of (by decide +kernel) (Nat.le_of_ble_eq_true rfl) (eX8_isLetter h)
theorem kX8_isLetter {own : String} {cc : ByteArray} {nL : Nat} {rt : Option FieldType} {d pc ix : Nat} {L : List (Nat × Value)} {st : List Value} {M : Mem} {Rt : xGt → Array Value → State → Outcome → State → Prop} {Q : Bool → Prop} {l0 : Int32} (hd : decode cc pc = .ok (.invokestatic ix, 3)) (q : Nat) (hq : pc + 3 = q) (w1 : Cond.methodLink own ix yX8_isLetter ∈ xTs) (hr : 1 < d) (hst : (st.map fun v => v.category).sum ≤ 8) (h : FX8_isLetter Q l0 M) (k : ∀ (r : Bool), Q r → xX own cc nL rt d q L (.int (bI r) :: st) M Rt) : xX own cc nL rt d pc L (.int l0 :: st) M Rt :=
  x_callS_b (n := 1) (As := [.int l0]) hd q hq w1 kw3_212 kw1_12 kw3_213 (by decide +kernel) rfl hr (by decide) hst _ rfl (cX8_isLetter_ h) (fun r N hN => by obtain ⟨rfl, hN⟩ := hN; exact k r hN)
def FX8_signAt (Q : Int32 → Prop) (l0 : Nat) (l1 : Int32) (M : Mem) : Prop :=
  ((l1 < 0 → Q 0) ∧ (¬ l1 < 0 → (((Int32.ofNat (SHn l0)) ≤ l1 → Q 0) ∧ (¬ (Int32.ofNat (SHn l0)) ≤ l1 → vp_in l1 (SHn l0) ∧ Q ((M l0 (ix l1)) &&& 255)))))
theorem eX8_signAt {Q : Int32 → Prop} {l0 : Nat} {l1 : Int32} {M : Mem} (hk_l0 : SHk l0 = 14) (h : FX8_signAt Q l0 l1 M) : xX RX8 cX8_signAt 2 (some .int) 1 0 [(0, .ref l0), (1, .int l1)] [] M (xQi (xP M Q)) := by
  unfold FX8_signAt at h
  refine x_iload_n dX8_signAt_0 rfl 1 rfl ?_
  refine x_if_lt dX8_signAt_1 20 4 rfl rfl (fun hc => ?_) (fun hc => ?_)
  · have h := h.1 hc
    refine x_iconst dX8_signAt_20 kc_0 21 rfl ?_
    exact x_iret dX8_signAt_21 ⟨rfl, h⟩
  · have h := h.2 hc
    refine x_iload_n dX8_signAt_4 rfl 5 rfl ?_
    refine x_aload_n dX8_signAt_5 rfl 6 rfl ?_
    refine x_alenb (n := Int32.ofNat (SHn l0)) dX8_signAt_6 ⟨hk_l0, rfl⟩ rfl 7 rfl ?_
    refine x_icmp_ge dX8_signAt_7 20 10 rfl rfl (fun hc => ?_) (fun hc => ?_)
    · have h := h.1 hc
      refine x_iconst dX8_signAt_20 kc_0 21 rfl ?_
      exact x_iret dX8_signAt_21 ⟨rfl, h⟩
    · have h := h.2 hc
      refine x_aload_n dX8_signAt_10 rfl 11 rfl ?_
      refine x_iload_n dX8_signAt_11 rfl 12 rfl ?_
      obtain ⟨hin, h⟩ := h
      refine x_baload dX8_signAt_12 ⟨hk_l0, rfl⟩ hin 13 rfl ?_
      refine x_sipush dX8_signAt_13 kh_255 16 rfl ?_
      refine x_iand dX8_signAt_16 17 rfl ?_
      refine x_goto dX8_signAt_17 21 rfl ?_
      exact x_iret dX8_signAt_21 ⟨rfl, h⟩
theorem cX8_signAt_ {Q : Int32 → Prop} {l0 : Nat} {l1 : Int32} {M : Mem} (hk_l0 : SHk l0 = 14) (h : FX8_signAt Q l0 l1 M) : xM yX8_signAt cX8_signAt 2 (some .int) 1 [.ref l0, .int l1] M (xQi (xP M Q)) := xM_of (by decide +kernel) (Nat.le_of_ble_eq_true rfl) (eX8_signAt hk_l0 h)
theorem kX8_signAt {own : String} {cc : ByteArray} {nL : Nat} {rt : Option FieldType} {d pc ix : Nat} {L : List (Nat × Value)} {st : List Value} {M : Mem} {Rt : xGt → Array Value → State → Outcome → State → Prop} {Q : Int32 → Prop} {l0 : Nat} {l1 : Int32} (hd : decode cc pc = .ok (.invokestatic ix, 3)) (q : Nat) (hq : pc + 3 = q) (hk_l0 : SHk l0 = 14) (w1 : Cond.methodLink own ix yX8_signAt ∈ xTs) (hr : 1 < d) (hst : (st.map fun v => v.category).sum ≤ 8) (h : FX8_signAt Q l0 l1 M) (k : ∀ (r : Int32), Q r → xX own cc nL rt d q L (.int r :: st) M Rt) : xX own cc nL rt d pc L (.int l1 :: .ref l0 :: st) M Rt :=
  x_callS_i (n := 2) (As := [.ref l0, .int l1]) hd q hq w1 kw3_209 kw1_12 kw3_210 (by decide +kernel) rfl hr (by decide) hst _ rfl (cX8_signAt_ hk_l0 h) (fun r N hN => by obtain ⟨rfl, hN⟩ := hN; exact k r hN)
def NX8_endOf_46 (Q : Int32 → Prop) (B24 : Int32 → Prop) (l0 : Nat) (l2 : Int32) (l3 : Int32) (l4 : Int32) (l5 : Int32) (M : Mem) : Prop :=
  ((l4 = 0 → Q l5) ∧ (¬ l4 = 0 → FX8_signAt (fun (r1 : Int32) => FX8_isDigit (fun (r2 : Bool) => ((r2 = false → Q l5) ∧ (r2 = true → B24 (l5 + 1)))) r1 M) l0 l5 M))
theorem nX8_endOf_46 {Q : Int32 → Prop} {B24 : Int32 → Prop} {l0 : Nat} {l2 : Int32} {l3 : Int32} {l4 : Int32} {l5 : Int32} {M : Mem} (hB24 : ∀ (l5 : Int32), B24 l5 → xX RX8 cX8_endOf 6 (some .int) 2 24 [(0, .ref l0), (2, .int l2), (3, .int l3), (4, .int l4), (5, .int l5)] [] M (xQi (xP M Q))) (hk_l0 : SHk l0 = 14) (h : NX8_endOf_46 Q B24 l0 l2 l3 l4 l5 M) : xX RX8 cX8_endOf 6 (some .int) 2 46 [(0, .ref l0), (2, .int l2), (3, .int l3), (4, .int l4), (5, .int l5)] [] M (xQi (xP M Q)) := by
  unfold NX8_endOf_46 at h
  refine x_iload dX8_endOf_46 rfl 48 rfl ?_
  refine x_if_eq dX8_endOf_48 69 51 rfl rfl (fun hc => ?_) (fun hc => ?_)
  · have h := h.1 hc
    refine x_iload dX8_endOf_69 rfl 71 rfl ?_
    exact x_iret dX8_endOf_71 ⟨rfl, h⟩
  · have h := h.2 hc
    refine x_aload_n dX8_endOf_51 rfl 52 rfl ?_
    refine x_iload dX8_endOf_52 rfl 54 rfl ?_
    refine kX8_signAt dX8_endOf_54 57 rfl hk_l0 kw3_208 (Nat.le_of_ble_eq_true rfl) (Nat.le_of_ble_eq_true rfl) h (fun r1 h => ?_)
    refine kX8_isDigit dX8_endOf_57 60 rfl kw3_214 (Nat.le_of_ble_eq_true rfl) (Nat.le_of_ble_eq_true rfl) h (fun r2 h => ?_)
    refine x_if_eq_b dX8_endOf_60 69 63 rfl rfl (fun hc => ?_) (fun hc => ?_)
    · have h := h.1 hc
      refine x_iload dX8_endOf_69 rfl 71 rfl ?_
      exact x_iret dX8_endOf_71 ⟨rfl, h⟩
    · have h := h.2 hc
      refine x_iinc dX8_endOf_63 rfl (congrArg (l5 + ·) kc_1) (Nat.le_of_ble_eq_true rfl) [(0, .ref l0), (2, .int l2), (3, .int l3), (4, .int l4), (5, .int (l5 + 1))] rfl 66 rfl ?_
      refine x_goto dX8_endOf_66 24 rfl ?_
      exact hB24 _ h
def lbX8_endOf_24 (Q : Int32 → Prop) (l0 : Nat) (l2 : Int32) (l3 : Int32) (l4 : Int32) (M : Mem) (B24 : Int32 → Prop) (l5 : Int32) : Prop :=
  ((l2 ≤ l5 → Q l5) ∧ (¬ l2 ≤ l5 → ((l3 = 0 → NX8_endOf_46 Q B24 l0 l2 l3 l4 l5 M) ∧ (¬ l3 = 0 → FX8_signAt (fun (r3 : Int32) => FX8_isLetter (fun (r4 : Bool) => ((r4 = true → B24 (l5 + 1)) ∧ (r4 = false → NX8_endOf_46 Q B24 l0 l2 l3 l4 l5 M))) r3 M) l0 l5 M))))
def NX8_endOf_24 (Q : Int32 → Prop) (l0 : Nat) (l2 : Int32) (l3 : Int32) (l4 : Int32) (l5 : Int32) (M : Mem) : Prop := xlp (fun (B : Int32 → Prop) a => lbX8_endOf_24 Q l0 l2 l3 l4 M (fun l5 => B (l5)) a) (l5)
theorem nX8_endOf_24 {Q : Int32 → Prop} {l0 : Nat} {l2 : Int32} {l3 : Int32} {l4 : Int32} {l5 : Int32} {M : Mem} (hk_l0 : SHk l0 = 14) (h : NX8_endOf_24 Q l0 l2 l3 l4 l5 M) : xX RX8 cX8_endOf 6 (some .int) 2 24 [(0, .ref l0), (2, .int l2), (3, .int l3), (4, .int l4), (5, .int l5)] [] M (xQi (xP M Q)) := by
  obtain ⟨n, h⟩ := h
  have hB24 : ∀ (n : Nat) (l5 : Int32), xlpn (fun (B : Int32 → Prop) a => lbX8_endOf_24 Q l0 l2 l3 l4 M (fun l5 => B (l5)) a) n (l5) → xX RX8 cX8_endOf 6 (some .int) 2 24 [(0, .ref l0), (2, .int l2), (3, .int l3), (4, .int l4), (5, .int l5)] [] M (xQi (xP M Q)) := by
    intro n
    induction n with
    | zero => intro l5 h; exact False.elim h
    | succ n ih =>
      intro l5 h
      have hB24 := ih
      have h : lbX8_endOf_24 Q l0 l2 l3 l4 M (fun l5 => xlpn (fun (B : Int32 → Prop) a => lbX8_endOf_24 Q l0 l2 l3 l4 M (fun l5 => B (l5)) a) n (l5)) l5 := h
      unfold lbX8_endOf_24 at h
      refine x_iload dX8_endOf_24 rfl 26 rfl ?_
      refine x_iload_n dX8_endOf_26 rfl 27 rfl ?_
      refine x_icmp_ge dX8_endOf_27 69 30 rfl rfl (fun hc => ?_) (fun hc => ?_)
      · have h := h.1 hc
        refine x_iload dX8_endOf_69 rfl 71 rfl ?_
        exact x_iret dX8_endOf_71 ⟨rfl, h⟩
      · have h := h.2 hc
        refine x_iload_n dX8_endOf_30 rfl 31 rfl ?_
        refine x_if_eq dX8_endOf_31 46 34 rfl rfl (fun hc => ?_) (fun hc => ?_)
        · have h := h.1 hc
          exact nX8_endOf_46 hB24 hk_l0 h
        · have h := h.2 hc
          refine x_aload_n dX8_endOf_34 rfl 35 rfl ?_
          refine x_iload dX8_endOf_35 rfl 37 rfl ?_
          refine kX8_signAt dX8_endOf_37 40 rfl hk_l0 kw3_208 (Nat.le_of_ble_eq_true rfl) (Nat.le_of_ble_eq_true rfl) h (fun r3 h => ?_)
          refine kX8_isLetter dX8_endOf_40 43 rfl kw3_211 (Nat.le_of_ble_eq_true rfl) (Nat.le_of_ble_eq_true rfl) h (fun r4 h => ?_)
          refine x_if_ne_b dX8_endOf_43 63 46 rfl rfl (fun hc => ?_) (fun hc => ?_)
          · have h := h.1 hc
            refine x_iinc dX8_endOf_63 rfl (congrArg (l5 + ·) kc_1) (Nat.le_of_ble_eq_true rfl) [(0, .ref l0), (2, .int l2), (3, .int l3), (4, .int l4), (5, .int (l5 + 1))] rfl 66 rfl ?_
            refine x_goto dX8_endOf_66 24 rfl ?_
            exact hB24 _ h
          · have h := h.2 hc
            exact nX8_endOf_46 hB24 hk_l0 h
  exact hB24 n l5 h
def FX8_endOf (Q : Int32 → Prop) (l0 : Nat) (l1 : Int32) (l2 : Int32) (M : Mem) : Prop :=
  FX8_signAt (fun (r5 : Int32) => FX8_isLetter (fun (r6 : Bool) => FX8_signAt (fun (r7 : Int32) => FX8_isDigit (fun (r8 : Bool) => NX8_endOf_24 Q l0 l2 (bI r6) (bI r8) (l1 + 1) M) r7 M) l0 l1 M) r5 M) l0 l1 M
theorem eX8_endOf {Q : Int32 → Prop} {l0 : Nat} {l1 : Int32} {l2 : Int32} {M : Mem} (hk_l0 : SHk l0 = 14) (h : FX8_endOf Q l0 l1 l2 M) : xX RX8 cX8_endOf 6 (some .int) 2 0 [(0, .ref l0), (1, .int l1), (2, .int l2)] [] M (xQi (xP M Q)) := by
  unfold FX8_endOf at h
  refine x_aload_n dX8_endOf_0 rfl 1 rfl ?_
  refine x_iload_n dX8_endOf_1 rfl 2 rfl ?_
  refine kX8_signAt dX8_endOf_2 5 rfl hk_l0 kw3_208 (Nat.le_of_ble_eq_true rfl) (Nat.le_of_ble_eq_true rfl) h (fun r5 h => ?_)
  refine kX8_isLetter dX8_endOf_5 8 rfl kw3_211 (Nat.le_of_ble_eq_true rfl) (Nat.le_of_ble_eq_true rfl) h (fun r6 h => ?_)
  refine x_istore_n dX8_endOf_8 (Nat.le_of_ble_eq_true rfl) [(0, .ref l0), (1, .int l1), (2, .int l2), (3, .int (bI r6))] rfl 9 rfl ?_
  refine x_aload_n dX8_endOf_9 rfl 10 rfl ?_
  refine x_iload_n dX8_endOf_10 rfl 11 rfl ?_
  refine kX8_signAt dX8_endOf_11 14 rfl hk_l0 kw3_208 (Nat.le_of_ble_eq_true rfl) (Nat.le_of_ble_eq_true rfl) h (fun r7 h => ?_)
  refine kX8_isDigit dX8_endOf_14 17 rfl kw3_214 (Nat.le_of_ble_eq_true rfl) (Nat.le_of_ble_eq_true rfl) h (fun r8 h => ?_)
  refine x_istore dX8_endOf_17 (Nat.le_of_ble_eq_true rfl) [(0, .ref l0), (1, .int l1), (2, .int l2), (3, .int (bI r6)), (4, .int (bI r8))] rfl 19 rfl ?_
  refine x_iload_n dX8_endOf_19 rfl 20 rfl ?_
  refine x_iconst dX8_endOf_20 kc_1 21 rfl ?_
  refine x_iadd dX8_endOf_21 22 rfl ?_
  refine x_istore dX8_endOf_22 (Nat.le_of_ble_eq_true rfl) [(0, .ref l0), (1, .int l1), (2, .int l2), (3, .int (bI r6)), (4, .int (bI r8)), (5, .int (l1 + 1))] rfl 24 rfl ?_
  refine x_weak [(0, .ref l0), (2, .int l2), (3, .int (bI r6)), (4, .int (bI r8)), (5, .int (l1 + 1))] [0, 2, 3, 4, 5] rfl ?_
  exact nX8_endOf_24 hk_l0 h
theorem cX8_endOf_ {Q : Int32 → Prop} {l0 : Nat} {l1 : Int32} {l2 : Int32} {M : Mem} (hk_l0 : SHk l0 = 14) (h : FX8_endOf Q l0 l1 l2 M) : xM yX8_endOf cX8_endOf 6 (some .int) 2 [.ref l0, .int l1, .int l2] M (xQi (xP M Q)) := xM_of (by decide +kernel) (Nat.le_of_ble_eq_true rfl) (eX8_endOf hk_l0 h)
theorem kX8_endOf {own : String} {cc : ByteArray} {nL : Nat} {rt : Option FieldType} {d pc ix : Nat} {L : List (Nat × Value)} {st : List Value} {M : Mem} {Rt : xGt → Array Value → State → Outcome → State → Prop} {Q : Int32 → Prop} {l0 : Nat} {l1 : Int32} {l2 : Int32} (hd : decode cc pc = .ok (.invokestatic ix, 3)) (q : Nat) (hq : pc + 3 = q) (hk_l0 : SHk l0 = 14) (w1 : Cond.methodLink own ix yX8_endOf ∈ xTs) (hr : 2 < d) (hst : (st.map fun v => v.category).sum ≤ 8) (h : FX8_endOf Q l0 l1 l2 M) (k : ∀ (r : Int32), Q r → xX own cc nL rt d q L (.int r :: st) M Rt) : xX own cc nL rt d pc L (.int l2 :: .int l1 :: .ref l0 :: st) M Rt :=
  x_callS_i (n := 3) (As := [.ref l0, .int l1, .int l2]) hd q hq w1 kw3_206 kw1_12 kw3_207 (by decide +kernel) rfl hr (by decide) hst _ rfl (cX8_endOf_ hk_l0 h) (fun r N hN => by obtain ⟨rfl, hN⟩ := hN; exact k r hN)
def lbX8_numberOf_5 (Q : Int32 → Prop) (l0 : Nat) (l1 : Int32) (l2 : Int32) (M : Mem) (B5 : Int32 → Int32 → Prop) (l3 : Int32) (l4 : Int32) : Prop :=
  ((l2 ≤ l4 → Q l3) ∧ (¬ l2 ≤ l4 → (((l1 + 4) ≤ l4 → Q l3) ∧ (¬ (l1 + 4) ≤ l4 → FX8_signAt (fun (r1 : Int32) => ∀ y2 : Int32, y2 = ((l3 * 10) + r1) - 48 → B5 y2 (l4 + 1)) l0 l4 M))))
def NX8_numberOf_5 (Q : Int32 → Prop) (l0 : Nat) (l1 : Int32) (l2 : Int32) (l3 : Int32) (l4 : Int32) (M : Mem) : Prop := xlp (fun (B : Int32 × Int32 → Prop) a => lbX8_numberOf_5 Q l0 l1 l2 M (fun l3 l4 => B (l3, l4)) a.1 a.2) (l3, l4)
theorem nX8_numberOf_5 {Q : Int32 → Prop} {l0 : Nat} {l1 : Int32} {l2 : Int32} {l3 : Int32} {l4 : Int32} {M : Mem} (hk_l0 : SHk l0 = 14) (h : NX8_numberOf_5 Q l0 l1 l2 l3 l4 M) : xX RX8 cX8_numberOf 5 (some .int) 2 5 [(0, .ref l0), (1, .int l1), (2, .int l2), (3, .int l3), (4, .int l4)] [] M (xQi (xP M Q)) := by
  obtain ⟨n, h⟩ := h
  have hB5 : ∀ (n : Nat) (l3 : Int32) (l4 : Int32), xlpn (fun (B : Int32 × Int32 → Prop) a => lbX8_numberOf_5 Q l0 l1 l2 M (fun l3 l4 => B (l3, l4)) a.1 a.2) n (l3, l4) → xX RX8 cX8_numberOf 5 (some .int) 2 5 [(0, .ref l0), (1, .int l1), (2, .int l2), (3, .int l3), (4, .int l4)] [] M (xQi (xP M Q)) := by
    intro n
    induction n with
    | zero => intro l3 l4 h; exact False.elim h
    | succ n ih =>
      intro l3 l4 h
      have hB5 := ih
      have h : lbX8_numberOf_5 Q l0 l1 l2 M (fun l3 l4 => xlpn (fun (B : Int32 × Int32 → Prop) a => lbX8_numberOf_5 Q l0 l1 l2 M (fun l3 l4 => B (l3, l4)) a.1 a.2) n (l3, l4)) l3 l4 := h
      unfold lbX8_numberOf_5 at h
      refine x_iload dX8_numberOf_5 rfl 7 rfl ?_
      refine x_iload_n dX8_numberOf_7 rfl 8 rfl ?_
      refine x_icmp_ge dX8_numberOf_8 40 11 rfl rfl (fun hc => ?_) (fun hc => ?_)
      · have h := h.1 hc
        refine x_iload_n dX8_numberOf_40 rfl 41 rfl ?_
        exact x_iret dX8_numberOf_41 ⟨rfl, h⟩
      · have h := h.2 hc
        refine x_iload dX8_numberOf_11 rfl 13 rfl ?_
        refine x_iload_n dX8_numberOf_13 rfl 14 rfl ?_
        refine x_iconst dX8_numberOf_14 kc_4 15 rfl ?_
        refine x_iadd dX8_numberOf_15 16 rfl ?_
        refine x_icmp_ge dX8_numberOf_16 40 19 rfl rfl (fun hc => ?_) (fun hc => ?_)
        · have h := h.1 hc
          refine x_iload_n dX8_numberOf_40 rfl 41 rfl ?_
          exact x_iret dX8_numberOf_41 ⟨rfl, h⟩
        · have h := h.2 hc
          refine x_iload_n dX8_numberOf_19 rfl 20 rfl ?_
          refine x_bipush dX8_numberOf_20 kb_10 22 rfl ?_
          refine x_imul dX8_numberOf_22 23 rfl ?_
          refine x_aload_n dX8_numberOf_23 rfl 24 rfl ?_
          refine x_iload dX8_numberOf_24 rfl 26 rfl ?_
          refine kX8_signAt dX8_numberOf_26 29 rfl hk_l0 kw3_208 (Nat.le_of_ble_eq_true rfl) (Nat.le_of_ble_eq_true rfl) h (fun r1 h => ?_)
          refine x_iadd dX8_numberOf_29 30 rfl ?_
          refine x_bipush dX8_numberOf_30 kb_48 32 rfl ?_
          refine x_isub dX8_numberOf_32 33 rfl ?_
          refine x_top (fun y2 hy2 => ?_)
          have h := h y2 hy2
          refine x_istore_n dX8_numberOf_33 (Nat.le_of_ble_eq_true rfl) [(0, .ref l0), (1, .int l1), (2, .int l2), (3, .int y2), (4, .int l4)] rfl 34 rfl ?_
          refine x_iinc dX8_numberOf_34 rfl (congrArg (l4 + ·) kc_1) (Nat.le_of_ble_eq_true rfl) [(0, .ref l0), (1, .int l1), (2, .int l2), (3, .int y2), (4, .int (l4 + 1))] rfl 37 rfl ?_
          refine x_goto dX8_numberOf_37 5 rfl ?_
          exact hB5 _ _ h
  exact hB5 n l3 l4 h
def FX8_numberOf (Q : Int32 → Prop) (l0 : Nat) (l1 : Int32) (l2 : Int32) (M : Mem) : Prop :=
  NX8_numberOf_5 Q l0 l1 l2 0 l1 M
theorem eX8_numberOf {Q : Int32 → Prop} {l0 : Nat} {l1 : Int32} {l2 : Int32} {M : Mem} (hk_l0 : SHk l0 = 14) (h : FX8_numberOf Q l0 l1 l2 M) : xX RX8 cX8_numberOf 5 (some .int) 2 0 [(0, .ref l0), (1, .int l1), (2, .int l2)] [] M (xQi (xP M Q)) := by
  unfold FX8_numberOf at h
  refine x_iconst dX8_numberOf_0 kc_0 1 rfl ?_
  refine x_istore_n dX8_numberOf_1 (Nat.le_of_ble_eq_true rfl) [(0, .ref l0), (1, .int l1), (2, .int l2), (3, .int 0)] rfl 2 rfl ?_
  refine x_iload_n dX8_numberOf_2 rfl 3 rfl ?_
  refine x_istore dX8_numberOf_3 (Nat.le_of_ble_eq_true rfl) [(0, .ref l0), (1, .int l1), (2, .int l2), (3, .int 0), (4, .int l1)] rfl 5 rfl ?_
  exact nX8_numberOf_5 hk_l0 h
theorem cX8_numberOf_ {Q : Int32 → Prop} {l0 : Nat} {l1 : Int32} {l2 : Int32} {M : Mem} (hk_l0 : SHk l0 = 14) (h : FX8_numberOf Q l0 l1 l2 M) : xM yX8_numberOf cX8_numberOf 5 (some .int) 2 [.ref l0, .int l1, .int l2] M (xQi (xP M Q)) := xM_of (by decide +kernel) (Nat.le_of_ble_eq_true rfl) (eX8_numberOf hk_l0 h)
theorem kX8_numberOf {own : String} {cc : ByteArray} {nL : Nat} {rt : Option FieldType} {d pc ix : Nat} {L : List (Nat × Value)} {st : List Value} {M : Mem} {Rt : xGt → Array Value → State → Outcome → State → Prop} {Q : Int32 → Prop} {l0 : Nat} {l1 : Int32} {l2 : Int32} (hd : decode cc pc = .ok (.invokestatic ix, 3)) (q : Nat) (hq : pc + 3 = q) (hk_l0 : SHk l0 = 14) (w1 : Cond.methodLink own ix yX8_numberOf ∈ xTs) (hr : 2 < d) (hst : (st.map fun v => v.category).sum ≤ 8) (h : FX8_numberOf Q l0 l1 l2 M) (k : ∀ (r : Int32), Q r → xX own cc nL rt d q L (.int r :: st) M Rt) : xX own cc nL rt d pc L (.int l2 :: .int l1 :: .ref l0 :: st) M Rt :=
  x_callS_i (n := 3) (As := [.ref l0, .int l1, .int l2]) hd q hq w1 kw4_34 kw1_12 kw4_35 (by decide +kernel) rfl hr (by decide) hst _ rfl (cX8_numberOf_ hk_l0 h) (fun r N hN => by obtain ⟨rfl, hN⟩ := hN; exact k r hN)
def lbX8_wordOf_9 (Q : Int32 → Prop) (l0 : Nat) (l1 : Int32) (l2 : Int32) (l3 : Nat) (M : Mem) (B9 : Int32 → Int32 → Int32 → Prop) (l4 : Int32) (l5 : Int32) (l6 : Int32) : Prop :=
  (((sLen l3) ≤ l6 → Q (-1)) ∧ (¬ (sLen l3) ≤ l6 → vp_in l6 (sLn l3) ∧ ((¬ (sAt l3 (ix l6)) = 32 → ((l5 = (-1) → B9 l4 (-1) (l6 + 1)) ∧ (¬ l5 = (-1) → ((l2 ≤ (l1 + l5) → B9 l4 (-1) (l6 + 1)) ∧ (¬ l2 ≤ (l1 + l5) → FX8_signAt (fun (r1 : Int32) => ((¬ r1 = (sAt l3 (ix l6)) → B9 l4 (-1) (l6 + 1)) ∧ (r1 = (sAt l3 (ix l6)) → B9 l4 (l5 + 1) (l6 + 1)))) l0 (l1 + l5) M))))) ∧ ((sAt l3 (ix l6)) = 32 → ((¬ l5 = (l2 - l1) → B9 (l4 + 1) 0 (l6 + 1)) ∧ (l5 = (l2 - l1) → Q l4))))))
def NX8_wordOf_9 (Q : Int32 → Prop) (l0 : Nat) (l1 : Int32) (l2 : Int32) (l3 : Nat) (l4 : Int32) (l5 : Int32) (l6 : Int32) (M : Mem) : Prop := xlp (fun (B : Int32 × Int32 × Int32 → Prop) a => lbX8_wordOf_9 Q l0 l1 l2 l3 M (fun l4 l5 l6 => B (l4, l5, l6)) a.1 a.2.1 a.2.2) (l4, l5, l6)
theorem nX8_wordOf_9 {Q : Int32 → Prop} {l0 : Nat} {l1 : Int32} {l2 : Int32} {l3 : Nat} {l4 : Int32} {l5 : Int32} {l6 : Int32} {M : Mem} (hk_l0 : SHk l0 = 14) (hk_l3 : SHk l3 = 16) (h : NX8_wordOf_9 Q l0 l1 l2 l3 l4 l5 l6 M) : xX RX8 cX8_wordOf 8 (some .int) 6 9 [(0, .ref l0), (1, .int l1), (2, .int l2), (3, .ref l3), (4, .int l4), (5, .int l5), (6, .int l6)] [] M (xQi (xP M Q)) := by
  obtain ⟨n, h⟩ := h
  have hB9 : ∀ (n : Nat) (l4 : Int32) (l5 : Int32) (l6 : Int32), xlpn (fun (B : Int32 × Int32 × Int32 → Prop) a => lbX8_wordOf_9 Q l0 l1 l2 l3 M (fun l4 l5 l6 => B (l4, l5, l6)) a.1 a.2.1 a.2.2) n (l4, l5, l6) → xX RX8 cX8_wordOf 8 (some .int) 6 9 [(0, .ref l0), (1, .int l1), (2, .int l2), (3, .ref l3), (4, .int l4), (5, .int l5), (6, .int l6)] [] M (xQi (xP M Q)) := by
    intro n
    induction n with
    | zero => intro l4 l5 l6 h; exact False.elim h
    | succ n ih =>
      intro l4 l5 l6 h
      have hB9 := ih
      have h : lbX8_wordOf_9 Q l0 l1 l2 l3 M (fun l4 l5 l6 => xlpn (fun (B : Int32 × Int32 × Int32 → Prop) a => lbX8_wordOf_9 Q l0 l1 l2 l3 M (fun l4 l5 l6 => B (l4, l5, l6)) a.1 a.2.1 a.2.2) n (l4, l5, l6)) l4 l5 l6 := h
      unfold lbX8_wordOf_9 at h
      refine x_iload dX8_wordOf_9 rfl 11 rfl ?_
      refine x_aload_n dX8_wordOf_11 rfl 12 rfl ?_
      refine x_strlen dX8_wordOf_12 15 rfl hk_l3 kw3_221 (Nat.le_of_ble_eq_true rfl) (Nat.le_of_ble_eq_true rfl) ?_
      refine x_icmp_ge dX8_wordOf_15 95 18 rfl rfl (fun hc => ?_) (fun hc => ?_)
      · have h := h.1 hc
        refine x_iconst dX8_wordOf_95 kc_m1 96 rfl ?_
        exact x_iret dX8_wordOf_96 ⟨rfl, h⟩
      · have h := h.2 hc
        refine x_aload_n dX8_wordOf_18 rfl 19 rfl ?_
        refine x_iload dX8_wordOf_19 rfl 21 rfl ?_
        obtain ⟨hin, h⟩ := h
        refine x_charAt dX8_wordOf_21 24 rfl hk_l3 hin kw3_231 (Nat.le_of_ble_eq_true rfl) (Nat.le_of_ble_eq_true rfl) ?_
        refine x_istore dX8_wordOf_24 (Nat.le_of_ble_eq_true rfl) [(0, .ref l0), (1, .int l1), (2, .int l2), (3, .ref l3), (4, .int l4), (5, .int l5), (6, .int l6), (7, .int (sAt l3 (ix l6)))] rfl 26 rfl ?_
        refine x_iload dX8_wordOf_26 rfl 28 rfl ?_
        refine x_bipush dX8_wordOf_28 kb_32 30 rfl ?_
        refine x_icmp_ne dX8_wordOf_30 53 33 rfl rfl (fun hc => ?_) (fun hc => ?_)
        · have h := h.1 hc
          refine x_iload dX8_wordOf_53 rfl 55 rfl ?_
          refine x_iconst dX8_wordOf_55 kc_m1 56 rfl ?_
          refine x_icmp_eq dX8_wordOf_56 86 59 rfl rfl (fun hc => ?_) (fun hc => ?_)
          · have h := h.1 hc
            refine x_iconst dX8_wordOf_86 kc_m1 87 rfl ?_
            refine x_istore dX8_wordOf_87 (Nat.le_of_ble_eq_true rfl) [(0, .ref l0), (1, .int l1), (2, .int l2), (3, .ref l3), (4, .int l4), (5, .int (-1)), (6, .int l6), (7, .int (sAt l3 (ix l6)))] rfl 89 rfl ?_
            refine x_iinc dX8_wordOf_89 rfl (congrArg (l6 + ·) kc_1) (Nat.le_of_ble_eq_true rfl) [(0, .ref l0), (1, .int l1), (2, .int l2), (3, .ref l3), (4, .int l4), (5, .int (-1)), (6, .int (l6 + 1)), (7, .int (sAt l3 (ix l6)))] rfl 92 rfl ?_
            refine x_goto dX8_wordOf_92 9 rfl ?_
            refine x_weak [(0, .ref l0), (1, .int l1), (2, .int l2), (3, .ref l3), (4, .int l4), (5, .int (-1)), (6, .int (l6 + 1))] [0, 1, 2, 3, 4, 5, 6] rfl ?_
            exact hB9 _ _ _ h
          · have h := h.2 hc
            refine x_iload_n dX8_wordOf_59 rfl 60 rfl ?_
            refine x_iload dX8_wordOf_60 rfl 62 rfl ?_
            refine x_iadd dX8_wordOf_62 63 rfl ?_
            refine x_iload_n dX8_wordOf_63 rfl 64 rfl ?_
            refine x_icmp_ge dX8_wordOf_64 86 67 rfl rfl (fun hc => ?_) (fun hc => ?_)
            · have h := h.1 hc
              refine x_iconst dX8_wordOf_86 kc_m1 87 rfl ?_
              refine x_istore dX8_wordOf_87 (Nat.le_of_ble_eq_true rfl) [(0, .ref l0), (1, .int l1), (2, .int l2), (3, .ref l3), (4, .int l4), (5, .int (-1)), (6, .int l6), (7, .int (sAt l3 (ix l6)))] rfl 89 rfl ?_
              refine x_iinc dX8_wordOf_89 rfl (congrArg (l6 + ·) kc_1) (Nat.le_of_ble_eq_true rfl) [(0, .ref l0), (1, .int l1), (2, .int l2), (3, .ref l3), (4, .int l4), (5, .int (-1)), (6, .int (l6 + 1)), (7, .int (sAt l3 (ix l6)))] rfl 92 rfl ?_
              refine x_goto dX8_wordOf_92 9 rfl ?_
              refine x_weak [(0, .ref l0), (1, .int l1), (2, .int l2), (3, .ref l3), (4, .int l4), (5, .int (-1)), (6, .int (l6 + 1))] [0, 1, 2, 3, 4, 5, 6] rfl ?_
              exact hB9 _ _ _ h
            · have h := h.2 hc
              refine x_aload_n dX8_wordOf_67 rfl 68 rfl ?_
              refine x_iload_n dX8_wordOf_68 rfl 69 rfl ?_
              refine x_iload dX8_wordOf_69 rfl 71 rfl ?_
              refine x_iadd dX8_wordOf_71 72 rfl ?_
              refine kX8_signAt dX8_wordOf_72 75 rfl hk_l0 kw3_208 (Nat.le_of_ble_eq_true rfl) (Nat.le_of_ble_eq_true rfl) h (fun r1 h => ?_)
              refine x_iload dX8_wordOf_75 rfl 77 rfl ?_
              refine x_icmp_ne dX8_wordOf_77 86 80 rfl rfl (fun hc => ?_) (fun hc => ?_)
              · have h := h.1 hc
                refine x_iconst dX8_wordOf_86 kc_m1 87 rfl ?_
                refine x_istore dX8_wordOf_87 (Nat.le_of_ble_eq_true rfl) [(0, .ref l0), (1, .int l1), (2, .int l2), (3, .ref l3), (4, .int l4), (5, .int (-1)), (6, .int l6), (7, .int (sAt l3 (ix l6)))] rfl 89 rfl ?_
                refine x_iinc dX8_wordOf_89 rfl (congrArg (l6 + ·) kc_1) (Nat.le_of_ble_eq_true rfl) [(0, .ref l0), (1, .int l1), (2, .int l2), (3, .ref l3), (4, .int l4), (5, .int (-1)), (6, .int (l6 + 1)), (7, .int (sAt l3 (ix l6)))] rfl 92 rfl ?_
                refine x_goto dX8_wordOf_92 9 rfl ?_
                refine x_weak [(0, .ref l0), (1, .int l1), (2, .int l2), (3, .ref l3), (4, .int l4), (5, .int (-1)), (6, .int (l6 + 1))] [0, 1, 2, 3, 4, 5, 6] rfl ?_
                exact hB9 _ _ _ h
              · have h := h.2 hc
                refine x_iinc dX8_wordOf_80 rfl (congrArg (l5 + ·) kc_1) (Nat.le_of_ble_eq_true rfl) [(0, .ref l0), (1, .int l1), (2, .int l2), (3, .ref l3), (4, .int l4), (5, .int (l5 + 1)), (6, .int l6), (7, .int (sAt l3 (ix l6)))] rfl 83 rfl ?_
                refine x_goto dX8_wordOf_83 89 rfl ?_
                refine x_iinc dX8_wordOf_89 rfl (congrArg (l6 + ·) kc_1) (Nat.le_of_ble_eq_true rfl) [(0, .ref l0), (1, .int l1), (2, .int l2), (3, .ref l3), (4, .int l4), (5, .int (l5 + 1)), (6, .int (l6 + 1)), (7, .int (sAt l3 (ix l6)))] rfl 92 rfl ?_
                refine x_goto dX8_wordOf_92 9 rfl ?_
                refine x_weak [(0, .ref l0), (1, .int l1), (2, .int l2), (3, .ref l3), (4, .int l4), (5, .int (l5 + 1)), (6, .int (l6 + 1))] [0, 1, 2, 3, 4, 5, 6] rfl ?_
                exact hB9 _ _ _ h
        · have h := h.2 hc
          refine x_iload dX8_wordOf_33 rfl 35 rfl ?_
          refine x_iload_n dX8_wordOf_35 rfl 36 rfl ?_
          refine x_iload_n dX8_wordOf_36 rfl 37 rfl ?_
          refine x_isub dX8_wordOf_37 38 rfl ?_
          refine x_icmp_ne dX8_wordOf_38 44 41 rfl rfl (fun hc => ?_) (fun hc => ?_)
          · have h := h.1 hc
            refine x_iinc dX8_wordOf_44 rfl (congrArg (l4 + ·) kc_1) (Nat.le_of_ble_eq_true rfl) [(0, .ref l0), (1, .int l1), (2, .int l2), (3, .ref l3), (4, .int (l4 + 1)), (5, .int l5), (6, .int l6), (7, .int (sAt l3 (ix l6)))] rfl 47 rfl ?_
            refine x_iconst dX8_wordOf_47 kc_0 48 rfl ?_
            refine x_istore dX8_wordOf_48 (Nat.le_of_ble_eq_true rfl) [(0, .ref l0), (1, .int l1), (2, .int l2), (3, .ref l3), (4, .int (l4 + 1)), (5, .int 0), (6, .int l6), (7, .int (sAt l3 (ix l6)))] rfl 50 rfl ?_
            refine x_goto dX8_wordOf_50 89 rfl ?_
            refine x_iinc dX8_wordOf_89 rfl (congrArg (l6 + ·) kc_1) (Nat.le_of_ble_eq_true rfl) [(0, .ref l0), (1, .int l1), (2, .int l2), (3, .ref l3), (4, .int (l4 + 1)), (5, .int 0), (6, .int (l6 + 1)), (7, .int (sAt l3 (ix l6)))] rfl 92 rfl ?_
            refine x_goto dX8_wordOf_92 9 rfl ?_
            refine x_weak [(0, .ref l0), (1, .int l1), (2, .int l2), (3, .ref l3), (4, .int (l4 + 1)), (5, .int 0), (6, .int (l6 + 1))] [0, 1, 2, 3, 4, 5, 6] rfl ?_
            exact hB9 _ _ _ h
          · have h := h.2 hc
            refine x_iload dX8_wordOf_41 rfl 43 rfl ?_
            exact x_iret dX8_wordOf_43 ⟨rfl, h⟩
  exact hB9 n l4 l5 l6 h
def FX8_wordOf (Q : Int32 → Prop) (l0 : Nat) (l1 : Int32) (l2 : Int32) (l3 : Nat) (M : Mem) : Prop :=
  NX8_wordOf_9 Q l0 l1 l2 l3 0 0 0 M
theorem eX8_wordOf {Q : Int32 → Prop} {l0 : Nat} {l1 : Int32} {l2 : Int32} {l3 : Nat} {M : Mem} (hk_l0 : SHk l0 = 14) (hk_l3 : SHk l3 = 16) (h : FX8_wordOf Q l0 l1 l2 l3 M) : xX RX8 cX8_wordOf 8 (some .int) 6 0 [(0, .ref l0), (1, .int l1), (2, .int l2), (3, .ref l3)] [] M (xQi (xP M Q)) := by
  unfold FX8_wordOf at h
  refine x_iconst dX8_wordOf_0 kc_0 1 rfl ?_
  refine x_istore dX8_wordOf_1 (Nat.le_of_ble_eq_true rfl) [(0, .ref l0), (1, .int l1), (2, .int l2), (3, .ref l3), (4, .int 0)] rfl 3 rfl ?_
  refine x_iconst dX8_wordOf_3 kc_0 4 rfl ?_
  refine x_istore dX8_wordOf_4 (Nat.le_of_ble_eq_true rfl) [(0, .ref l0), (1, .int l1), (2, .int l2), (3, .ref l3), (4, .int 0), (5, .int 0)] rfl 6 rfl ?_
  refine x_iconst dX8_wordOf_6 kc_0 7 rfl ?_
  refine x_istore dX8_wordOf_7 (Nat.le_of_ble_eq_true rfl) [(0, .ref l0), (1, .int l1), (2, .int l2), (3, .ref l3), (4, .int 0), (5, .int 0), (6, .int 0)] rfl 9 rfl ?_
  exact nX8_wordOf_9 hk_l0 hk_l3 h
theorem cX8_wordOf_ {Q : Int32 → Prop} {l0 : Nat} {l1 : Int32} {l2 : Int32} {l3 : Nat} {M : Mem} (hk_l0 : SHk l0 = 14) (hk_l3 : SHk l3 = 16) (h : FX8_wordOf Q l0 l1 l2 l3 M) : xM yX8_wordOf cX8_wordOf 8 (some .int) 6 [.ref l0, .int l1, .int l2, .ref l3] M (xQi (xP M Q)) := xM_of (by decide +kernel) (Nat.le_of_ble_eq_true rfl) (eX8_wordOf hk_l0 hk_l3 h)
theorem kX8_wordOf {own : String} {cc : ByteArray} {nL : Nat} {rt : Option FieldType} {d pc ix : Nat} {L : List (Nat × Value)} {st : List Value} {M : Mem} {Rt : xGt → Array Value → State → Outcome → State → Prop} {Q : Int32 → Prop} {l0 : Nat} {l1 : Int32} {l2 : Int32} {l3 : Nat} (hd : decode cc pc = .ok (.invokestatic ix, 3)) (q : Nat) (hq : pc + 3 = q) (hk_l0 : SHk l0 = 14) (hk_l3 : SHk l3 = 16) (w1 : Cond.methodLink own ix yX8_wordOf ∈ xTs) (hr : 6 < d) (hst : (st.map fun v => v.category).sum ≤ 8) (h : FX8_wordOf Q l0 l1 l2 l3 M) (k : ∀ (r : Int32), Q r → xX own cc nL rt d q L (.int r :: st) M Rt) : xX own cc nL rt d pc L (.ref l3 :: .int l2 :: .int l1 :: .ref l0 :: st) M Rt :=
  x_callS_i (n := 4) (As := [.ref l0, .int l1, .int l2, .ref l3]) hd q hq w1 kw3_219 kw1_12 kw3_220 (by decide +kernel) rfl hr (by decide) hst _ rfl (cX8_wordOf_ hk_l0 hk_l3 h) (fun r N hN => by obtain ⟨rfl, hN⟩ := hN; exact k r hN)
def NX8_cut_76 (Q : Mem → Prop) (B8 : Int32 → Mem → Prop) (l0 : Nat) (l1 : Nat) (l2 : Int32) (l3 : Nat) (l4 : Int32) (l5 : Int32) (s0 : Nat) (s1 : Int32) (M : Mem) : Prop :=
  FX8_add (fun (M1 : Mem) => B8 l5 M1) s0 s1 0 l4 M
theorem nX8_cut_76 {Q : Mem → Prop} {B8 : Int32 → Mem → Prop} {l0 : Nat} {l1 : Nat} {l2 : Int32} {l3 : Nat} {l4 : Int32} {l5 : Int32} {s0 : Nat} {s1 : Int32} {M : Mem} (hB8 : ∀ (l4 : Int32) (M : Mem), B8 l4 M → xX RX8 cX8_cut 8 none 7 8 [(0, .ref l0), (1, .ref l1), (2, .int l2), (3, .ref l3), (4, .int l4)] [] M (xQv Q)) (hk_l0 : SHk l0 = 8) (hk_l1 : SHk l1 = 14) (hk_l3 : SHk l3 = 16) (hk_s0 : SHk s0 = 8) (h : NX8_cut_76 Q B8 l0 l1 l2 l3 l4 l5 s0 s1 M) : xX RX8 cX8_cut 8 none 7 76 [(0, .ref l0), (1, .ref l1), (2, .int l2), (3, .ref l3), (4, .int l4), (5, .int l5)] [.int s1, .ref s0] M (xQv Q) := by
  unfold NX8_cut_76 at h
  refine x_iconst dX8_cut_76 kc_0 77 rfl ?_
  refine x_iload dX8_cut_77 rfl 79 rfl ?_
  refine kX8_add dX8_cut_79 82 rfl hk_s0 kw4_29 (Nat.le_of_ble_eq_true rfl) (Nat.le_of_ble_eq_true rfl) h (fun M1 h => ?_)
  refine x_goto dX8_cut_82 165 rfl ?_
  refine x_iload dX8_cut_165 rfl 167 rfl ?_
  refine x_istore dX8_cut_167 (Nat.le_of_ble_eq_true rfl) [(0, .ref l0), (1, .ref l1), (2, .int l2), (3, .ref l3), (4, .int l5), (5, .int l5)] rfl 169 rfl ?_
  refine x_goto dX8_cut_169 8 rfl ?_
  refine x_weak [(0, .ref l0), (1, .ref l1), (2, .int l2), (3, .ref l3), (4, .int l5)] [0, 1, 2, 3, 4] rfl ?_
  exact hB8 _ _ h
def NX8_cut_112 (Q : Mem → Prop) (B8 : Int32 → Mem → Prop) (l0 : Nat) (l1 : Nat) (l2 : Int32) (l3 : Nat) (l4 : Int32) (l5 : Int32) (s0 : Nat) (s1 : Int32) (M : Mem) : Prop :=
  FX8_numberOf (fun (r2 : Int32) => FX8_add (fun (M3 : Mem) => B8 l5 M3) s0 s1 r2 l4 M) l1 l4 l5 M
theorem nX8_cut_112 {Q : Mem → Prop} {B8 : Int32 → Mem → Prop} {l0 : Nat} {l1 : Nat} {l2 : Int32} {l3 : Nat} {l4 : Int32} {l5 : Int32} {s0 : Nat} {s1 : Int32} {M : Mem} (hB8 : ∀ (l4 : Int32) (M : Mem), B8 l4 M → xX RX8 cX8_cut 8 none 7 8 [(0, .ref l0), (1, .ref l1), (2, .int l2), (3, .ref l3), (4, .int l4)] [] M (xQv Q)) (hk_l0 : SHk l0 = 8) (hk_l1 : SHk l1 = 14) (hk_l3 : SHk l3 = 16) (hk_s0 : SHk s0 = 8) (h : NX8_cut_112 Q B8 l0 l1 l2 l3 l4 l5 s0 s1 M) : xX RX8 cX8_cut 8 none 7 112 [(0, .ref l0), (1, .ref l1), (2, .int l2), (3, .ref l3), (4, .int l4), (5, .int l5)] [.int s1, .ref s0] M (xQv Q) := by
  unfold NX8_cut_112 at h
  refine x_aload_n dX8_cut_112 rfl 113 rfl ?_
  refine x_iload dX8_cut_113 rfl 115 rfl ?_
  refine x_iload dX8_cut_115 rfl 117 rfl ?_
  refine kX8_numberOf dX8_cut_117 120 rfl hk_l1 kw4_33 (Nat.le_of_ble_eq_true rfl) (Nat.le_of_ble_eq_true rfl) h (fun r2 h => ?_)
  refine x_iload dX8_cut_120 rfl 122 rfl ?_
  refine kX8_add dX8_cut_122 125 rfl hk_s0 kw4_29 (Nat.le_of_ble_eq_true rfl) (Nat.le_of_ble_eq_true rfl) h (fun M3 h => ?_)
  refine x_goto dX8_cut_125 165 rfl ?_
  refine x_iload dX8_cut_165 rfl 167 rfl ?_
  refine x_istore dX8_cut_167 (Nat.le_of_ble_eq_true rfl) [(0, .ref l0), (1, .ref l1), (2, .int l2), (3, .ref l3), (4, .int l5), (5, .int l5)] rfl 169 rfl ?_
  refine x_goto dX8_cut_169 8 rfl ?_
  refine x_weak [(0, .ref l0), (1, .ref l1), (2, .int l2), (3, .ref l3), (4, .int l5)] [0, 1, 2, 3, 4] rfl ?_
  exact hB8 _ _ h
def NX8_cut_159 (Q : Mem → Prop) (B8 : Int32 → Mem → Prop) (l0 : Nat) (l1 : Nat) (l2 : Int32) (l3 : Nat) (l4 : Int32) (l5 : Int32) (s0 : Nat) (s1 : Int32) (M : Mem) : Prop :=
  FX8_add (fun (M4 : Mem) => B8 l5 M4) s0 s1 0 l4 M
theorem nX8_cut_159 {Q : Mem → Prop} {B8 : Int32 → Mem → Prop} {l0 : Nat} {l1 : Nat} {l2 : Int32} {l3 : Nat} {l4 : Int32} {l5 : Int32} {s0 : Nat} {s1 : Int32} {M : Mem} (hB8 : ∀ (l4 : Int32) (M : Mem), B8 l4 M → xX RX8 cX8_cut 8 none 7 8 [(0, .ref l0), (1, .ref l1), (2, .int l2), (3, .ref l3), (4, .int l4)] [] M (xQv Q)) (hk_l0 : SHk l0 = 8) (hk_l1 : SHk l1 = 14) (hk_l3 : SHk l3 = 16) (hk_s0 : SHk s0 = 8) (h : NX8_cut_159 Q B8 l0 l1 l2 l3 l4 l5 s0 s1 M) : xX RX8 cX8_cut 8 none 7 159 [(0, .ref l0), (1, .ref l1), (2, .int l2), (3, .ref l3), (4, .int l4), (5, .int l5)] [.int s1, .ref s0] M (xQv Q) := by
  unfold NX8_cut_159 at h
  refine x_iconst dX8_cut_159 kc_0 160 rfl ?_
  refine x_iload dX8_cut_160 rfl 162 rfl ?_
  refine kX8_add dX8_cut_162 165 rfl hk_s0 kw4_29 (Nat.le_of_ble_eq_true rfl) (Nat.le_of_ble_eq_true rfl) h (fun M4 h => ?_)
  refine x_iload dX8_cut_165 rfl 167 rfl ?_
  refine x_istore dX8_cut_167 (Nat.le_of_ble_eq_true rfl) [(0, .ref l0), (1, .ref l1), (2, .int l2), (3, .ref l3), (4, .int l5), (5, .int l5)] rfl 169 rfl ?_
  refine x_goto dX8_cut_169 8 rfl ?_
  refine x_weak [(0, .ref l0), (1, .ref l1), (2, .int l2), (3, .ref l3), (4, .int l5)] [0, 1, 2, 3, 4] rfl ?_
  exact hB8 _ _ h
def lbX8_cut_8 (Q : Mem → Prop) (l0 : Nat) (l1 : Nat) (l2 : Int32) (l3 : Nat) (B8 : Int32 → Mem → Prop) (l4 : Int32) (M : Mem) : Prop :=
  ((l2 ≤ l4 → FX8_add (fun (M5 : Mem) => Q M5) l0 200 0 l2 M) ∧ (¬ l2 ≤ l4 → FX8_endOf (fun (r6 : Int32) => FJ9_max_7cf53 (fun (r7 : Int32) => FX8_signAt (fun (r8 : Int32) => FX8_isLetter (fun (r9 : Bool) => ((r9 = false → FX8_isDigit (fun (r10 : Bool) => ((r10 = false → ((r8 = 32 → B8 r7 M) ∧ (¬ r8 = 32 → ((r8 = 10 → B8 r7 M) ∧ (¬ r8 = 10 → ((128 ≤ r8 → NX8_cut_159 Q B8 l0 l1 l2 l3 l4 r7 l0 202 M) ∧ (¬ 128 ≤ r8 → NX8_cut_159 Q B8 l0 l1 l2 l3 l4 r7 l0 r8 M))))))) ∧ (r10 = true → (((r7 - l4) ≤ 4 → NX8_cut_112 Q B8 l0 l1 l2 l3 l4 r7 l0 201 M) ∧ (¬ (r7 - l4) ≤ 4 → NX8_cut_112 Q B8 l0 l1 l2 l3 l4 r7 l0 202 M))))) r8 M) ∧ (r9 = true → FX8_wordOf (fun (r11 : Int32) => ((¬ r11 = (-1) → NX8_cut_76 Q B8 l0 l1 l2 l3 l4 r7 l0 (300 + r11) M) ∧ (r11 = (-1) → NX8_cut_76 Q B8 l0 l1 l2 l3 l4 r7 l0 202 M))) l1 l4 r7 l3 M))) r8 M) l1 l4 M) (l4 + 1) r6 M) l1 l4 l2 M))
def NX8_cut_8 (Q : Mem → Prop) (l0 : Nat) (l1 : Nat) (l2 : Int32) (l3 : Nat) (l4 : Int32) (M : Mem) : Prop := xlp (fun (B : Int32 × Mem → Prop) a => lbX8_cut_8 Q l0 l1 l2 l3 (fun l4 M => B (l4, M)) a.1 a.2) (l4, M)
theorem nX8_cut_8 {Q : Mem → Prop} {l0 : Nat} {l1 : Nat} {l2 : Int32} {l3 : Nat} {l4 : Int32} {M : Mem} (hk_l0 : SHk l0 = 8) (hk_l1 : SHk l1 = 14) (hk_l3 : SHk l3 = 16) (h : NX8_cut_8 Q l0 l1 l2 l3 l4 M) : xX RX8 cX8_cut 8 none 7 8 [(0, .ref l0), (1, .ref l1), (2, .int l2), (3, .ref l3), (4, .int l4)] [] M (xQv Q) := by
  obtain ⟨n, h⟩ := h
  have hB8 : ∀ (n : Nat) (l4 : Int32) (M : Mem), xlpn (fun (B : Int32 × Mem → Prop) a => lbX8_cut_8 Q l0 l1 l2 l3 (fun l4 M => B (l4, M)) a.1 a.2) n (l4, M) → xX RX8 cX8_cut 8 none 7 8 [(0, .ref l0), (1, .ref l1), (2, .int l2), (3, .ref l3), (4, .int l4)] [] M (xQv Q) := by
    intro n
    induction n with
    | zero => intro l4 M h; exact False.elim h
    | succ n ih =>
      intro l4 M h
      have hB8 := ih
      have h : lbX8_cut_8 Q l0 l1 l2 l3 (fun l4 M => xlpn (fun (B : Int32 × Mem → Prop) a => lbX8_cut_8 Q l0 l1 l2 l3 (fun l4 M => B (l4, M)) a.1 a.2) n (l4, M)) l4 M := h
      unfold lbX8_cut_8 at h
      refine x_iload dX8_cut_8 rfl 10 rfl ?_
      refine x_iload_n dX8_cut_10 rfl 11 rfl ?_
      refine x_icmp_ge dX8_cut_11 172 14 rfl rfl (fun hc => ?_) (fun hc => ?_)
      · have h := h.1 hc
        refine x_aload_n dX8_cut_172 rfl 173 rfl ?_
        refine x_sipush dX8_cut_173 kh_200 176 rfl ?_
        refine x_iconst dX8_cut_176 kc_0 177 rfl ?_
        refine x_iload_n dX8_cut_177 rfl 178 rfl ?_
        refine kX8_add dX8_cut_178 181 rfl hk_l0 kw4_29 (Nat.le_of_ble_eq_true rfl) (Nat.le_of_ble_eq_true rfl) h (fun M5 h => ?_)
        exact x_vret dX8_cut_181 h
      · have h := h.2 hc
        refine x_iload dX8_cut_14 rfl 16 rfl ?_
        refine x_iconst dX8_cut_16 kc_1 17 rfl ?_
        refine x_iadd dX8_cut_17 18 rfl ?_
        refine x_aload_n dX8_cut_18 rfl 19 rfl ?_
        refine x_iload dX8_cut_19 rfl 21 rfl ?_
        refine x_iload_n dX8_cut_21 rfl 22 rfl ?_
        refine kX8_endOf dX8_cut_22 25 rfl hk_l1 kw3_205 (Nat.le_of_ble_eq_true rfl) (Nat.le_of_ble_eq_true rfl) h (fun r6 h => ?_)
        refine kJ9_max_7cf53 dX8_cut_25 28 rfl kw3_217 (Nat.le_of_ble_eq_true rfl) (Nat.le_of_ble_eq_true rfl) h (fun r7 h => ?_)
        refine x_istore dX8_cut_28 (Nat.le_of_ble_eq_true rfl) [(0, .ref l0), (1, .ref l1), (2, .int l2), (3, .ref l3), (4, .int l4), (5, .int r7)] rfl 30 rfl ?_
        refine x_aload_n dX8_cut_30 rfl 31 rfl ?_
        refine x_iload dX8_cut_31 rfl 33 rfl ?_
        refine kX8_signAt dX8_cut_33 36 rfl hk_l1 kw3_208 (Nat.le_of_ble_eq_true rfl) (Nat.le_of_ble_eq_true rfl) h (fun r8 h => ?_)
        refine x_istore dX8_cut_36 (Nat.le_of_ble_eq_true rfl) [(0, .ref l0), (1, .ref l1), (2, .int l2), (3, .ref l3), (4, .int l4), (5, .int r7), (6, .int r8)] rfl 38 rfl ?_
        refine x_iload dX8_cut_38 rfl 40 rfl ?_
        refine kX8_isLetter dX8_cut_40 43 rfl kw3_211 (Nat.le_of_ble_eq_true rfl) (Nat.le_of_ble_eq_true rfl) h (fun r9 h => ?_)
        refine x_if_eq_b dX8_cut_43 85 46 rfl rfl (fun hc => ?_) (fun hc => ?_)
        · have h := h.1 hc
          refine x_iload dX8_cut_85 rfl 87 rfl ?_
          refine kX8_isDigit dX8_cut_87 90 rfl kw3_214 (Nat.le_of_ble_eq_true rfl) (Nat.le_of_ble_eq_true rfl) h (fun r10 h => ?_)
          refine x_if_eq_b dX8_cut_90 128 93 rfl rfl (fun hc => ?_) (fun hc => ?_)
          · have h := h.1 hc
            refine x_iload dX8_cut_128 rfl 130 rfl ?_
            refine x_bipush dX8_cut_130 kb_32 132 rfl ?_
            refine x_icmp_eq dX8_cut_132 165 135 rfl rfl (fun hc => ?_) (fun hc => ?_)
            · have h := h.1 hc
              refine x_iload dX8_cut_165 rfl 167 rfl ?_
              refine x_istore dX8_cut_167 (Nat.le_of_ble_eq_true rfl) [(0, .ref l0), (1, .ref l1), (2, .int l2), (3, .ref l3), (4, .int r7), (5, .int r7), (6, .int r8)] rfl 169 rfl ?_
              refine x_goto dX8_cut_169 8 rfl ?_
              refine x_weak [(0, .ref l0), (1, .ref l1), (2, .int l2), (3, .ref l3), (4, .int r7)] [0, 1, 2, 3, 4] rfl ?_
              exact hB8 _ _ h
            · have h := h.2 hc
              refine x_iload dX8_cut_135 rfl 137 rfl ?_
              refine x_bipush dX8_cut_137 kb_10 139 rfl ?_
              refine x_icmp_eq dX8_cut_139 165 142 rfl rfl (fun hc => ?_) (fun hc => ?_)
              · have h := h.1 hc
                refine x_iload dX8_cut_165 rfl 167 rfl ?_
                refine x_istore dX8_cut_167 (Nat.le_of_ble_eq_true rfl) [(0, .ref l0), (1, .ref l1), (2, .int l2), (3, .ref l3), (4, .int r7), (5, .int r7), (6, .int r8)] rfl 169 rfl ?_
                refine x_goto dX8_cut_169 8 rfl ?_
                refine x_weak [(0, .ref l0), (1, .ref l1), (2, .int l2), (3, .ref l3), (4, .int r7)] [0, 1, 2, 3, 4] rfl ?_
                exact hB8 _ _ h
              · have h := h.2 hc
                refine x_aload_n dX8_cut_142 rfl 143 rfl ?_
                refine x_iload dX8_cut_143 rfl 145 rfl ?_
                refine x_sipush dX8_cut_145 kh_128 148 rfl ?_
                refine x_icmp_ge dX8_cut_148 156 151 rfl rfl (fun hc => ?_) (fun hc => ?_)
                · have h := h.1 hc
                  refine x_sipush dX8_cut_156 kh_202 159 rfl ?_
                  refine x_weak [(0, .ref l0), (1, .ref l1), (2, .int l2), (3, .ref l3), (4, .int l4), (5, .int r7)] [0, 1, 2, 3, 4, 5] rfl ?_
                  exact nX8_cut_159 hB8 hk_l0 hk_l1 hk_l3 hk_l0 h
                · have h := h.2 hc
                  refine x_iload dX8_cut_151 rfl 153 rfl ?_
                  refine x_goto dX8_cut_153 159 rfl ?_
                  refine x_weak [(0, .ref l0), (1, .ref l1), (2, .int l2), (3, .ref l3), (4, .int l4), (5, .int r7)] [0, 1, 2, 3, 4, 5] rfl ?_
                  exact nX8_cut_159 hB8 hk_l0 hk_l1 hk_l3 hk_l0 h
          · have h := h.2 hc
            refine x_aload_n dX8_cut_93 rfl 94 rfl ?_
            refine x_iload dX8_cut_94 rfl 96 rfl ?_
            refine x_iload dX8_cut_96 rfl 98 rfl ?_
            refine x_isub dX8_cut_98 99 rfl ?_
            refine x_iconst dX8_cut_99 kc_4 100 rfl ?_
            refine x_icmp_le dX8_cut_100 109 103 rfl rfl (fun hc => ?_) (fun hc => ?_)
            · have h := h.1 hc
              refine x_sipush dX8_cut_109 kh_201 112 rfl ?_
              refine x_weak [(0, .ref l0), (1, .ref l1), (2, .int l2), (3, .ref l3), (4, .int l4), (5, .int r7)] [0, 1, 2, 3, 4, 5] rfl ?_
              exact nX8_cut_112 hB8 hk_l0 hk_l1 hk_l3 hk_l0 h
            · have h := h.2 hc
              refine x_sipush dX8_cut_103 kh_202 106 rfl ?_
              refine x_goto dX8_cut_106 112 rfl ?_
              refine x_weak [(0, .ref l0), (1, .ref l1), (2, .int l2), (3, .ref l3), (4, .int l4), (5, .int r7)] [0, 1, 2, 3, 4, 5] rfl ?_
              exact nX8_cut_112 hB8 hk_l0 hk_l1 hk_l3 hk_l0 h
        · have h := h.2 hc
          refine x_aload_n dX8_cut_46 rfl 47 rfl ?_
          refine x_iload dX8_cut_47 rfl 49 rfl ?_
          refine x_iload dX8_cut_49 rfl 51 rfl ?_
          refine x_aload_n dX8_cut_51 rfl 52 rfl ?_
          refine kX8_wordOf dX8_cut_52 55 rfl hk_l1 hk_l3 kw3_218 (Nat.le_of_ble_eq_true rfl) (Nat.le_of_ble_eq_true rfl) h (fun r11 h => ?_)
          refine x_istore dX8_cut_55 (Nat.le_of_ble_eq_true rfl) [(0, .ref l0), (1, .ref l1), (2, .int l2), (3, .ref l3), (4, .int l4), (5, .int r7), (6, .int r8), (7, .int r11)] rfl 57 rfl ?_
          refine x_aload_n dX8_cut_57 rfl 58 rfl ?_
          refine x_iload dX8_cut_58 rfl 60 rfl ?_
          refine x_iconst dX8_cut_60 kc_m1 61 rfl ?_
          refine x_icmp_ne dX8_cut_61 70 64 rfl rfl (fun hc => ?_) (fun hc => ?_)
          · have h := h.1 hc
            refine x_sipush dX8_cut_70 kh_300 73 rfl ?_
            refine x_iload dX8_cut_73 rfl 75 rfl ?_
            refine x_iadd dX8_cut_75 76 rfl ?_
            refine x_weak [(0, .ref l0), (1, .ref l1), (2, .int l2), (3, .ref l3), (4, .int l4), (5, .int r7)] [0, 1, 2, 3, 4, 5] rfl ?_
            exact nX8_cut_76 hB8 hk_l0 hk_l1 hk_l3 hk_l0 h
          · have h := h.2 hc
            refine x_sipush dX8_cut_64 kh_202 67 rfl ?_
            refine x_goto dX8_cut_67 76 rfl ?_
            refine x_weak [(0, .ref l0), (1, .ref l1), (2, .int l2), (3, .ref l3), (4, .int l4), (5, .int r7)] [0, 1, 2, 3, 4, 5] rfl ?_
            exact nX8_cut_76 hB8 hk_l0 hk_l1 hk_l3 hk_l0 h
  exact hB8 n l4 M h
def FX8_cut (Q : Mem → Prop) (l0 : Nat) (l1 : Nat) (l2 : Int32) (l3 : Nat) (M : Mem) : Prop :=
  ∀ M12 : Mem, M12 = xu M l0 3 0 → NX8_cut_8 Q l0 l1 l2 l3 0 M12
theorem eX8_cut {Q : Mem → Prop} {l0 : Nat} {l1 : Nat} {l2 : Int32} {l3 : Nat} {M : Mem} (hk_l0 : SHk l0 = 8) (hk_l1 : SHk l1 = 14) (hk_l3 : SHk l3 = 16) (h : FX8_cut Q l0 l1 l2 l3 M) : xX RX8 cX8_cut 8 none 7 0 [(0, .ref l0), (1, .ref l1), (2, .int l2), (3, .ref l3)] [] M (xQv Q) := by
  unfold FX8_cut at h
  refine x_aload_n dX8_cut_0 rfl 1 rfl ?_
  refine x_iconst dX8_cut_1 kc_0 2 rfl ?_
  refine pf8_3 dX8_cut_2 5 rfl hk_l0 kw2_79 (x_mem (fun M12 hM12 => ?_))
  have h := h M12 hM12
  refine x_iconst dX8_cut_5 kc_0 6 rfl ?_
  refine x_istore dX8_cut_6 (Nat.le_of_ble_eq_true rfl) [(0, .ref l0), (1, .ref l1), (2, .int l2), (3, .ref l3), (4, .int 0)] rfl 8 rfl ?_
  exact nX8_cut_8 hk_l0 hk_l1 hk_l3 h
theorem cX8_cut_ {Q : Mem → Prop} {l0 : Nat} {l1 : Nat} {l2 : Int32} {l3 : Nat} {M : Mem} (hk_l0 : SHk l0 = 8) (hk_l1 : SHk l1 = 14) (hk_l3 : SHk l3 = 16) (h : FX8_cut Q l0 l1 l2 l3 M) : xM yX8_cut cX8_cut 8 none 7 [.ref l0, .ref l1, .int l2, .ref l3] M (xQv Q) := xM_of (by decide +kernel) (Nat.le_of_ble_eq_true rfl) (eX8_cut hk_l0 hk_l1 hk_l3 h)
theorem kX8_cut {own : String} {cc : ByteArray} {nL : Nat} {rt : Option FieldType} {d pc ix : Nat} {L : List (Nat × Value)} {st : List Value} {M : Mem} {Rt : xGt → Array Value → State → Outcome → State → Prop} {Q : Mem → Prop} {l0 : Nat} {l1 : Nat} {l2 : Int32} {l3 : Nat} (hd : decode cc pc = .ok (.invokevirtual ix, 3)) (q : Nat) (hq : pc + 3 = q) (hk_l0 : SHk l0 = 8) (hk_l1 : SHk l1 = 14) (hk_l3 : SHk l3 = 16) (w1 : Cond.methodLink own ix yX8_cut ∈ xTs) (hr : 7 < d) (hst : (st.map fun v => v.category).sum ≤ 8) (h : FX8_cut Q l0 l1 l2 l3 M) (k : ∀ (N : Mem), Q N → xX own cc nL rt d q L st N Rt) : xX own cc nL rt d pc L (.ref l3 :: .int l2 :: .ref l1 :: .ref l0 :: st) M Rt :=
  x_callV_v (n := 3) (As := [.ref l1, .int l2, .ref l3]) hd q hq hk_l0 (by decide) rfl rfl w1 kw3_202 kw3_203 kw1_12 kw3_204 (by decide +kernel) rfl hr (by decide) hst _ rfl (cX8_cut_ hk_l0 hk_l1 hk_l3 h) k
def NX5_read_136 (Q : Int32 → Mem → Prop) (B79 : Int32 → Mem → Prop) (l0 : Nat) (l1 : Int32) (l5 : Int32) (s0 : Int32) (M : Mem) : Prop :=
  ((¬ s0 = 0 → ∀ M1 : Mem, M1 = xu M l0 7 ((M l0 7) + 1) → B79 (l5 + 1) M1) ∧ (s0 = 0 → Q (-1) M))
theorem nX5_read_136 {Q : Int32 → Mem → Prop} {B79 : Int32 → Mem → Prop} {l0 : Nat} {l1 : Int32} {l5 : Int32} {s0 : Int32} {M : Mem} (hB79 : ∀ (l5 : Int32) (M : Mem), B79 l5 M → xX RX5 cX5_read 7 (some .int) 26 79 [(0, .ref l0), (1, .int l1), (5, .int l5)] [] M (xQi Q)) (hk_l0 : SHk l0 = 5) (h : NX5_read_136 Q B79 l0 l1 l5 s0 M) : xX RX5 cX5_read 7 (some .int) 26 136 [(0, .ref l0), (1, .int l1), (5, .int l5)] [.int s0] M (xQi Q) := by
  unfold NX5_read_136 at h
  refine x_istore dX5_read_136 (Nat.le_of_ble_eq_true rfl) [(0, .ref l0), (1, .int l1), (5, .int l5), (6, .int s0)] rfl 138 rfl ?_
  refine x_iload dX5_read_138 rfl 140 rfl ?_
  refine x_if_ne dX5_read_140 145 143 rfl rfl (fun hc => ?_) (fun hc => ?_)
  · have h := h.1 hc
    refine x_aload_n dX5_read_145 rfl 146 rfl ?_
    refine x_dup dX5_read_146 rfl 147 rfl ?_
    refine gf5_7 dX5_read_147 150 rfl hk_l0 kw2_101 ?_
    refine x_iconst dX5_read_150 kc_1 151 rfl ?_
    refine x_iadd dX5_read_151 152 rfl ?_
    refine pf5_7 dX5_read_152 155 rfl hk_l0 kw2_101 (x_mem (fun M1 hM1 => ?_))
    have h := h M1 hM1
    refine x_iinc dX5_read_155 rfl (congrArg (l5 + ·) kc_1) (Nat.le_of_ble_eq_true rfl) [(0, .ref l0), (1, .int l1), (5, .int (l5 + 1)), (6, .int s0)] rfl 158 rfl ?_
    refine x_goto dX5_read_158 79 rfl ?_
    refine x_weak [(0, .ref l0), (1, .int l1), (5, .int (l5 + 1))] [0, 1, 2] rfl ?_
    exact hB79 _ _ h
  · have h := h.2 hc
    refine x_iconst dX5_read_143 kc_m1 144 rfl ?_
    exact x_iret dX5_read_144 h
def lbX5_read_79 (Q : Int32 → Mem → Prop) (l0 : Nat) (l1 : Int32) (B79 : Int32 → Mem → Prop) (l5 : Int32) (M : Mem) : Prop :=
  ((400 ≤ l5 → Q (M l0 7) M) ∧ (¬ 400 ≤ l5 → FX5_kind (fun (r2 : Int32) => ((r2 = 200 → Q (M l0 7) M) ∧ (¬ r2 = 200 → ((¬ l1 = 0 → ((¬ l1 = 1 → ((¬ l1 = 2 → FX5_tenetLine (fun (r4 : Bool) (M3 : Mem) => NX5_read_136 Q B79 l0 l1 l5 (bI r4) M3) l0 M) ∧ (l1 = 2 → FX5_planLine (fun (r6 : Bool) (M5 : Mem) => NX5_read_136 Q B79 l0 l1 l5 (bI r6) M5) l0 M))) ∧ (l1 = 1 → FX5_skyLine (fun (r8 : Bool) (M7 : Mem) => NX5_read_136 Q B79 l0 l1 l5 (bI r8) M7) l0 M))) ∧ (l1 = 0 → FX5_lawLine (fun (r10 : Bool) (M9 : Mem) => NX5_read_136 Q B79 l0 l1 l5 (bI r10) M9) l0 M))))) l0 M))
def NX5_read_79 (Q : Int32 → Mem → Prop) (l0 : Nat) (l1 : Int32) (l5 : Int32) (M : Mem) : Prop := xlp (fun (B : Int32 × Mem → Prop) a => lbX5_read_79 Q l0 l1 (fun l5 M => B (l5, M)) a.1 a.2) (l5, M)
theorem nX5_read_79 {Q : Int32 → Mem → Prop} {l0 : Nat} {l1 : Int32} {l5 : Int32} {M : Mem} (hk_l0 : SHk l0 = 5) (h : NX5_read_79 Q l0 l1 l5 M) : xX RX5 cX5_read 7 (some .int) 26 79 [(0, .ref l0), (1, .int l1), (5, .int l5)] [] M (xQi Q) := by
  obtain ⟨n, h⟩ := h
  have hB79 : ∀ (n : Nat) (l5 : Int32) (M : Mem), xlpn (fun (B : Int32 × Mem → Prop) a => lbX5_read_79 Q l0 l1 (fun l5 M => B (l5, M)) a.1 a.2) n (l5, M) → xX RX5 cX5_read 7 (some .int) 26 79 [(0, .ref l0), (1, .int l1), (5, .int l5)] [] M (xQi Q) := by
    intro n
    induction n with
    | zero => intro l5 M h; exact False.elim h
    | succ n ih =>
      intro l5 M h
      have hB79 := ih
      have h : lbX5_read_79 Q l0 l1 (fun l5 M => xlpn (fun (B : Int32 × Mem → Prop) a => lbX5_read_79 Q l0 l1 (fun l5 M => B (l5, M)) a.1 a.2) n (l5, M)) l5 M := h
      unfold lbX5_read_79 at h
      refine x_iload dX5_read_79 rfl 81 rfl ?_
      refine x_sipush dX5_read_81 kh_400 84 rfl ?_
      refine x_icmp_ge dX5_read_84 161 87 rfl rfl (fun hc => ?_) (fun hc => ?_)
      · have h := h.1 hc
        refine x_aload_n dX5_read_161 rfl 162 rfl ?_
        refine gf5_7 dX5_read_162 165 rfl hk_l0 kw2_101 ?_
        exact x_iret dX5_read_165 h
      · have h := h.2 hc
        refine x_aload_n dX5_read_87 rfl 88 rfl ?_
        refine kX5_kind dX5_read_88 91 rfl hk_l0 kw4_40 (Nat.le_of_ble_eq_true rfl) (Nat.le_of_ble_eq_true rfl) h (fun r2 h => ?_)
        refine x_sipush dX5_read_91 kh_200 94 rfl ?_
        refine x_icmp_eq dX5_read_94 161 97 rfl rfl (fun hc => ?_) (fun hc => ?_)
        · have h := h.1 hc
          refine x_aload_n dX5_read_161 rfl 162 rfl ?_
          refine gf5_7 dX5_read_162 165 rfl hk_l0 kw2_101 ?_
          exact x_iret dX5_read_165 h
        · have h := h.2 hc
          refine x_iload_n dX5_read_97 rfl 98 rfl ?_
          refine x_if_ne dX5_read_98 108 101 rfl rfl (fun hc => ?_) (fun hc => ?_)
          · have h := h.1 hc
            refine x_iload_n dX5_read_108 rfl 109 rfl ?_
            refine x_iconst dX5_read_109 kc_1 110 rfl ?_
            refine x_icmp_ne dX5_read_110 120 113 rfl rfl (fun hc => ?_) (fun hc => ?_)
            · have h := h.1 hc
              refine x_iload_n dX5_read_120 rfl 121 rfl ?_
              refine x_iconst dX5_read_121 kc_2 122 rfl ?_
              refine x_icmp_ne dX5_read_122 132 125 rfl rfl (fun hc => ?_) (fun hc => ?_)
              · have h := h.1 hc
                refine x_aload_n dX5_read_132 rfl 133 rfl ?_
                refine kX5_tenetLine dX5_read_133 136 rfl hk_l0 kw4_120 (Nat.le_of_ble_eq_true rfl) (Nat.le_of_ble_eq_true rfl) h (fun r4 M3 h => ?_)
                exact nX5_read_136 hB79 hk_l0 h
              · have h := h.2 hc
                refine x_aload_n dX5_read_125 rfl 126 rfl ?_
                refine kX5_planLine dX5_read_126 129 rfl hk_l0 kw4_112 (Nat.le_of_ble_eq_true rfl) (Nat.le_of_ble_eq_true rfl) h (fun r6 M5 h => ?_)
                refine x_goto dX5_read_129 136 rfl ?_
                exact nX5_read_136 hB79 hk_l0 h
            · have h := h.2 hc
              refine x_aload_n dX5_read_113 rfl 114 rfl ?_
              refine kX5_skyLine dX5_read_114 117 rfl hk_l0 kw4_104 (Nat.le_of_ble_eq_true rfl) (Nat.le_of_ble_eq_true rfl) h (fun r8 M7 h => ?_)
              refine x_goto dX5_read_117 136 rfl ?_
              exact nX5_read_136 hB79 hk_l0 h
          · have h := h.2 hc
            refine x_aload_n dX5_read_101 rfl 102 rfl ?_
            refine kX5_lawLine dX5_read_102 105 rfl hk_l0 kw4_44 (Nat.le_of_ble_eq_true rfl) (Nat.le_of_ble_eq_true rfl) h (fun r10 M9 h => ?_)
            refine x_goto dX5_read_105 136 rfl ?_
            exact nX5_read_136 hB79 hk_l0 h
  exact hB79 n l5 M h
def FX5_read (Q : Int32 → Mem → Prop) (l0 : Nat) (l1 : Int32) (l2 : Nat) (l3 : Int32) (l4 : Nat) (M : Mem) : Prop :=
  FX5_forgetFault (fun (M11 : Mem) => FX5_wordsOf (fun (r12 : Nat) => SHk r12 = 16 ∧ FX8_cut (fun (M14 : Mem) => ∀ M15 : Mem, M15 = xu M14 l0 5 0 → ∀ M16 : Mem, M16 = xu M15 l0 7 0 → ∀ M17 : Mem, M17 = xu M16 l0 8 (M16 l4 10) → ∀ M18 : Mem, M18 = xu M17 l0 9 (M17 l4 11) → FX2_clear (fun (M19 : Mem) => ∀ M20 : Mem, M20 = xu M19 (l0 + 8) 2 0 → ∀ M21 : Mem, M21 = xu M20 (l0 + 11) 4 0 → ∀ M22 : Mem, M22 = xu M21 (l0 + 16) 2 0 → NX5_read_79 Q l0 l1 0 M22) (l0 + 1) M18) (l0 + 19) l2 l3 r12 M11) l1 M11) l0 M
theorem eX5_read {Q : Int32 → Mem → Prop} {l0 : Nat} {l1 : Int32} {l2 : Nat} {l3 : Int32} {l4 : Nat} {M : Mem} (hk_l0 : SHk l0 = 5) (hk_l2 : SHk l2 = 14) (hk_l4 : SHk l4 = 9) (h : FX5_read Q l0 l1 l2 l3 l4 M) : xX RX5 cX5_read 7 (some .int) 26 0 [(0, .ref l0), (1, .int l1), (2, .ref l2), (3, .int l3), (4, .ref l4)] [] M (xQi Q) := by
  unfold FX5_read at h
  refine x_aload_n dX5_read_0 rfl 1 rfl ?_
  refine kX5_forgetFault dX5_read_1 4 rfl hk_l0 kw3_193 (Nat.le_of_ble_eq_true rfl) (Nat.le_of_ble_eq_true rfl) h (fun M11 h => ?_)
  refine x_aload_n dX5_read_4 rfl 5 rfl ?_
  refine gf5_4 dX5_read_5 8 rfl hk_l0 kw2_98 ?_
  refine x_aload_n dX5_read_8 rfl 9 rfl ?_
  refine x_iload_n dX5_read_9 rfl 10 rfl ?_
  refine x_iload_n dX5_read_10 rfl 11 rfl ?_
  refine kX5_wordsOf dX5_read_11 14 rfl kw3_194 (Nat.le_of_ble_eq_true rfl) (Nat.le_of_ble_eq_true rfl) h (fun r12 h => ?_)
  obtain ⟨hw13, h⟩ := h
  refine kX8_cut dX5_read_14 17 rfl (ly5_4 hk_l0).1 hk_l2 hw13 kw3_201 (Nat.le_of_ble_eq_true rfl) (Nat.le_of_ble_eq_true rfl) h (fun M14 h => ?_)
  refine x_aload_n dX5_read_17 rfl 18 rfl ?_
  refine x_iconst dX5_read_18 kc_0 19 rfl ?_
  refine pf5_5 dX5_read_19 22 rfl hk_l0 kw2_99 (x_mem (fun M15 hM15 => ?_))
  have h := h M15 hM15
  refine x_aload_n dX5_read_22 rfl 23 rfl ?_
  refine x_iconst dX5_read_23 kc_0 24 rfl ?_
  refine pf5_7 dX5_read_24 27 rfl hk_l0 kw2_101 (x_mem (fun M16 hM16 => ?_))
  have h := h M16 hM16
  refine x_aload_n dX5_read_27 rfl 28 rfl ?_
  refine x_aload dX5_read_28 rfl 30 rfl ?_
  refine gf9_10 dX5_read_30 33 rfl hk_l4 kw1_70 ?_
  refine pf5_8 dX5_read_33 36 rfl hk_l0 kw2_102 (x_mem (fun M17 hM17 => ?_))
  have h := h M17 hM17
  refine x_aload_n dX5_read_36 rfl 37 rfl ?_
  refine x_aload dX5_read_37 rfl 39 rfl ?_
  refine gf9_11 dX5_read_39 42 rfl hk_l4 kw1_73 ?_
  refine pf5_9 dX5_read_42 45 rfl hk_l0 kw2_103 (x_mem (fun M18 hM18 => ?_))
  have h := h M18 hM18
  refine x_aload_n dX5_read_45 rfl 46 rfl ?_
  refine gf5_0 dX5_read_46 49 rfl hk_l0 kw2_90 ?_
  refine kX2_clear dX5_read_49 52 rfl (ly5_0 hk_l0).1 kw4_36 (Nat.le_of_ble_eq_true rfl) (Nat.le_of_ble_eq_true rfl) h (fun M19 h => ?_)
  refine x_aload_n dX5_read_52 rfl 53 rfl ?_
  refine gf5_1 dX5_read_53 56 rfl hk_l0 kw2_92 ?_
  refine x_iconst dX5_read_56 kc_0 57 rfl ?_
  refine pf6_2 dX5_read_57 60 rfl (ly5_1 hk_l0).1 kw1_178 (x_mem (fun M20 hM20 => ?_))
  have h := h M20 hM20
  refine x_aload_n dX5_read_60 rfl 61 rfl ?_
  refine gf5_2 dX5_read_61 64 rfl hk_l0 kw2_94 ?_
  refine x_iconst dX5_read_64 kc_0 65 rfl ?_
  refine pf4_4 dX5_read_65 68 rfl (ly5_2 hk_l0).1 kw1_198 (x_mem (fun M21 hM21 => ?_))
  have h := h M21 hM21
  refine x_aload_n dX5_read_68 rfl 69 rfl ?_
  refine gf5_3 dX5_read_69 72 rfl hk_l0 kw2_96 ?_
  refine x_iconst dX5_read_72 kc_0 73 rfl ?_
  refine pf7_2 dX5_read_73 76 rfl (ly5_3 hk_l0).1 kw1_220 (x_mem (fun M22 hM22 => ?_))
  have h := h M22 hM22
  refine x_iconst dX5_read_76 kc_0 77 rfl ?_
  refine x_istore dX5_read_77 (Nat.le_of_ble_eq_true rfl) [(0, .ref l0), (1, .int l1), (2, .ref l2), (3, .int l3), (4, .ref l4), (5, .int 0)] rfl 79 rfl ?_
  refine x_weak [(0, .ref l0), (1, .int l1), (5, .int 0)] [0, 1, 5] rfl ?_
  exact nX5_read_79 hk_l0 h
theorem cX5_read_ {Q : Int32 → Mem → Prop} {l0 : Nat} {l1 : Int32} {l2 : Nat} {l3 : Int32} {l4 : Nat} {M : Mem} (hk_l0 : SHk l0 = 5) (hk_l2 : SHk l2 = 14) (hk_l4 : SHk l4 = 9) (h : FX5_read Q l0 l1 l2 l3 l4 M) : xM yX5_read cX5_read 7 (some .int) 26 [.ref l0, .int l1, .ref l2, .int l3, .ref l4] M (xQi Q) := xM_of (by decide +kernel) (Nat.le_of_ble_eq_true rfl) (eX5_read hk_l0 hk_l2 hk_l4 h)
theorem kX5_read {own : String} {cc : ByteArray} {nL : Nat} {rt : Option FieldType} {d pc ix : Nat} {L : List (Nat × Value)} {st : List Value} {M : Mem} {Rt : xGt → Array Value → State → Outcome → State → Prop} {Q : Int32 → Mem → Prop} {l0 : Nat} {l1 : Int32} {l2 : Nat} {l3 : Int32} {l4 : Nat} (hd : decode cc pc = .ok (.invokevirtual ix, 3)) (q : Nat) (hq : pc + 3 = q) (hk_l0 : SHk l0 = 5) (hk_l2 : SHk l2 = 14) (hk_l4 : SHk l4 = 9) (w1 : Cond.methodLink own ix yX5_read ∈ xTs) (hr : 26 < d) (hst : (st.map fun v => v.category).sum ≤ 8) (h : FX5_read Q l0 l1 l2 l3 l4 M) (k : ∀ (r : Int32) (N : Mem), Q r N → xX own cc nL rt d q L (.int r :: st) N Rt) : xX own cc nL rt d pc L (.ref l4 :: .int l3 :: .ref l2 :: .int l1 :: .ref l0 :: st) M Rt :=
  x_callV_i (n := 4) (As := [.int l1, .ref l2, .int l3, .ref l4]) hd q hq hk_l0 (by decide) rfl rfl w1 kw3_190 kw3_191 kw1_11 kw3_192 (by decide +kernel) rfl hr (by decide) hst _ rfl (cX5_read_ hk_l0 hk_l2 hk_l4 h) k
def lbX7_closure_26 (Q : Int32 → Prop) (B8 : Int32 → Int32 → Int32 → Prop) (l0 : Nat) (l2 : Int32) (l5 : Int32) (l6 : Int32) (M : Mem) (B26 : Int32 → Int32 → Prop) (l3 : Int32) (l7 : Int32) : Prop :=
  (((M l0 2) ≤ l7 → ((l3 = l6 → B8 l3 0 (l5 + 1)) ∧ (¬ l3 = l6 → B8 l3 1 (l5 + 1)))) ∧ (¬ (M l0 2) ≤ l7 → ((l7 = l2 → B26 l3 (l7 + 1)) ∧ (¬ l7 = l2 → vp_in l7 16 ∧ ((¬ ((M (l0 + 1) (ix l7)) &&& (l3 ^^^ (-1))) = 0 → B26 l3 (l7 + 1)) ∧ (((M (l0 + 1) (ix l7)) &&& (l3 ^^^ (-1))) = 0 → vp_in l7 16 ∧ ∀ y1 : Int32, y1 = l3 ||| (M (l0 + 2) (ix l7)) → B26 y1 (l7 + 1)))))))
def NX7_closure_26 (Q : Int32 → Prop) (B8 : Int32 → Int32 → Int32 → Prop) (l0 : Nat) (l2 : Int32) (l3 : Int32) (l5 : Int32) (l6 : Int32) (l7 : Int32) (M : Mem) : Prop := xlp (fun (B : Int32 × Int32 → Prop) a => lbX7_closure_26 Q B8 l0 l2 l5 l6 M (fun l3 l7 => B (l3, l7)) a.1 a.2) (l3, l7)
theorem nX7_closure_26 {Q : Int32 → Prop} {B8 : Int32 → Int32 → Int32 → Prop} {l0 : Nat} {l2 : Int32} {l3 : Int32} {l5 : Int32} {l6 : Int32} {l7 : Int32} {M : Mem} (hB8 : ∀ (l3 : Int32) (l4 : Int32) (l5 : Int32), B8 l3 l4 l5 → xX RX7 cX7_closure 8 (some .int) 1 8 [(0, .ref l0), (2, .int l2), (3, .int l3), (4, .int l4), (5, .int l5)] [] M (xQi (xP M Q))) (hk_l0 : SHk l0 = 7) (h : NX7_closure_26 Q B8 l0 l2 l3 l5 l6 l7 M) : xX RX7 cX7_closure 8 (some .int) 1 26 [(0, .ref l0), (2, .int l2), (3, .int l3), (5, .int l5), (6, .int l6), (7, .int l7)] [] M (xQi (xP M Q)) := by
  obtain ⟨n, h⟩ := h
  have hB26 : ∀ (n : Nat) (l3 : Int32) (l7 : Int32), xlpn (fun (B : Int32 × Int32 → Prop) a => lbX7_closure_26 Q B8 l0 l2 l5 l6 M (fun l3 l7 => B (l3, l7)) a.1 a.2) n (l3, l7) → xX RX7 cX7_closure 8 (some .int) 1 26 [(0, .ref l0), (2, .int l2), (3, .int l3), (5, .int l5), (6, .int l6), (7, .int l7)] [] M (xQi (xP M Q)) := by
    intro n
    induction n with
    | zero => intro l3 l7 h; exact False.elim h
    | succ n ih =>
      intro l3 l7 h
      have hB26 := ih
      have h : lbX7_closure_26 Q B8 l0 l2 l5 l6 M (fun l3 l7 => xlpn (fun (B : Int32 × Int32 → Prop) a => lbX7_closure_26 Q B8 l0 l2 l5 l6 M (fun l3 l7 => B (l3, l7)) a.1 a.2) n (l3, l7)) l3 l7 := h
      unfold lbX7_closure_26 at h
      refine x_iload dX7_closure_26 rfl 28 rfl ?_
      refine x_aload_n dX7_closure_28 rfl 29 rfl ?_
      refine gf7_2 dX7_closure_29 32 rfl hk_l0 kw1_219 ?_
      refine x_icmp_ge dX7_closure_32 71 35 rfl rfl (fun hc => ?_) (fun hc => ?_)
      · have h := h.1 hc
        refine x_iload_n dX7_closure_71 rfl 72 rfl ?_
        refine x_iload dX7_closure_72 rfl 74 rfl ?_
        refine x_icmp_eq dX7_closure_74 81 77 rfl rfl (fun hc => ?_) (fun hc => ?_)
        · have h := h.1 hc
          refine x_iconst dX7_closure_81 kc_0 82 rfl ?_
          refine x_istore dX7_closure_82 (Nat.le_of_ble_eq_true rfl) [(0, .ref l0), (2, .int l2), (3, .int l3), (4, .int 0), (5, .int l5), (6, .int l6), (7, .int l7)] rfl 84 rfl ?_
          refine x_iinc dX7_closure_84 rfl (congrArg (l5 + ·) kc_1) (Nat.le_of_ble_eq_true rfl) [(0, .ref l0), (2, .int l2), (3, .int l3), (4, .int 0), (5, .int (l5 + 1)), (6, .int l6), (7, .int l7)] rfl 87 rfl ?_
          refine x_goto dX7_closure_87 8 rfl ?_
          refine x_weak [(0, .ref l0), (2, .int l2), (3, .int l3), (4, .int 0), (5, .int (l5 + 1))] [0, 1, 2, 3, 4] rfl ?_
          exact hB8 _ _ _ h
        · have h := h.2 hc
          refine x_iconst dX7_closure_77 kc_1 78 rfl ?_
          refine x_goto dX7_closure_78 82 rfl ?_
          refine x_istore dX7_closure_82 (Nat.le_of_ble_eq_true rfl) [(0, .ref l0), (2, .int l2), (3, .int l3), (4, .int 1), (5, .int l5), (6, .int l6), (7, .int l7)] rfl 84 rfl ?_
          refine x_iinc dX7_closure_84 rfl (congrArg (l5 + ·) kc_1) (Nat.le_of_ble_eq_true rfl) [(0, .ref l0), (2, .int l2), (3, .int l3), (4, .int 1), (5, .int (l5 + 1)), (6, .int l6), (7, .int l7)] rfl 87 rfl ?_
          refine x_goto dX7_closure_87 8 rfl ?_
          refine x_weak [(0, .ref l0), (2, .int l2), (3, .int l3), (4, .int 1), (5, .int (l5 + 1))] [0, 1, 2, 3, 4] rfl ?_
          exact hB8 _ _ _ h
      · have h := h.2 hc
        refine x_iload dX7_closure_35 rfl 37 rfl ?_
        refine x_iload_n dX7_closure_37 rfl 38 rfl ?_
        refine x_icmp_eq dX7_closure_38 65 41 rfl rfl (fun hc => ?_) (fun hc => ?_)
        · have h := h.1 hc
          refine x_iinc dX7_closure_65 rfl (congrArg (l7 + ·) kc_1) (Nat.le_of_ble_eq_true rfl) [(0, .ref l0), (2, .int l2), (3, .int l3), (5, .int l5), (6, .int l6), (7, .int (l7 + 1))] rfl 68 rfl ?_
          refine x_goto dX7_closure_68 26 rfl ?_
          exact hB26 _ _ h
        · have h := h.2 hc
          refine x_aload_n dX7_closure_41 rfl 42 rfl ?_
          refine gf7_0 dX7_closure_42 45 rfl hk_l0 kw1_217 ?_
          refine x_iload dX7_closure_45 rfl 47 rfl ?_
          obtain ⟨hin, h⟩ := h
          refine x_iaload dX7_closure_47 (ly7_0 hk_l0) hin 48 rfl ?_
          refine x_iload_n dX7_closure_48 rfl 49 rfl ?_
          refine x_iconst dX7_closure_49 kc_m1 50 rfl ?_
          refine x_ixor dX7_closure_50 51 rfl ?_
          refine x_iand dX7_closure_51 52 rfl ?_
          refine x_if_ne dX7_closure_52 65 55 rfl rfl (fun hc => ?_) (fun hc => ?_)
          · have h := h.1 hc
            refine x_iinc dX7_closure_65 rfl (congrArg (l7 + ·) kc_1) (Nat.le_of_ble_eq_true rfl) [(0, .ref l0), (2, .int l2), (3, .int l3), (5, .int l5), (6, .int l6), (7, .int (l7 + 1))] rfl 68 rfl ?_
            refine x_goto dX7_closure_68 26 rfl ?_
            exact hB26 _ _ h
          · have h := h.2 hc
            refine x_iload_n dX7_closure_55 rfl 56 rfl ?_
            refine x_aload_n dX7_closure_56 rfl 57 rfl ?_
            refine gf7_1 dX7_closure_57 60 rfl hk_l0 kw1_218 ?_
            refine x_iload dX7_closure_60 rfl 62 rfl ?_
            obtain ⟨hin, h⟩ := h
            refine x_iaload dX7_closure_62 (ly7_1 hk_l0) hin 63 rfl ?_
            refine x_ior dX7_closure_63 64 rfl ?_
            refine x_top (fun y1 hy1 => ?_)
            have h := h y1 hy1
            refine x_istore_n dX7_closure_64 (Nat.le_of_ble_eq_true rfl) [(0, .ref l0), (2, .int l2), (3, .int y1), (5, .int l5), (6, .int l6), (7, .int l7)] rfl 65 rfl ?_
            refine x_iinc dX7_closure_65 rfl (congrArg (l7 + ·) kc_1) (Nat.le_of_ble_eq_true rfl) [(0, .ref l0), (2, .int l2), (3, .int y1), (5, .int l5), (6, .int l6), (7, .int (l7 + 1))] rfl 68 rfl ?_
            refine x_goto dX7_closure_68 26 rfl ?_
            exact hB26 _ _ h
  exact hB26 n l3 l7 h
def lbX7_closure_8 (Q : Int32 → Prop) (l0 : Nat) (l2 : Int32) (M : Mem) (B8 : Int32 → Int32 → Int32 → Prop) (l3 : Int32) (l4 : Int32) (l5 : Int32) : Prop :=
  ((16 < l5 → Q l3) ∧ (¬ 16 < l5 → ((l4 = 0 → Q l3) ∧ (¬ l4 = 0 → NX7_closure_26 Q B8 l0 l2 l3 l5 l3 0 M))))
def NX7_closure_8 (Q : Int32 → Prop) (l0 : Nat) (l2 : Int32) (l3 : Int32) (l4 : Int32) (l5 : Int32) (M : Mem) : Prop := xlp (fun (B : Int32 × Int32 × Int32 → Prop) a => lbX7_closure_8 Q l0 l2 M (fun l3 l4 l5 => B (l3, l4, l5)) a.1 a.2.1 a.2.2) (l3, l4, l5)
theorem nX7_closure_8 {Q : Int32 → Prop} {l0 : Nat} {l2 : Int32} {l3 : Int32} {l4 : Int32} {l5 : Int32} {M : Mem} (hk_l0 : SHk l0 = 7) (h : NX7_closure_8 Q l0 l2 l3 l4 l5 M) : xX RX7 cX7_closure 8 (some .int) 1 8 [(0, .ref l0), (2, .int l2), (3, .int l3), (4, .int l4), (5, .int l5)] [] M (xQi (xP M Q)) := by
  obtain ⟨n, h⟩ := h
  have hB8 : ∀ (n : Nat) (l3 : Int32) (l4 : Int32) (l5 : Int32), xlpn (fun (B : Int32 × Int32 × Int32 → Prop) a => lbX7_closure_8 Q l0 l2 M (fun l3 l4 l5 => B (l3, l4, l5)) a.1 a.2.1 a.2.2) n (l3, l4, l5) → xX RX7 cX7_closure 8 (some .int) 1 8 [(0, .ref l0), (2, .int l2), (3, .int l3), (4, .int l4), (5, .int l5)] [] M (xQi (xP M Q)) := by
    intro n
    induction n with
    | zero => intro l3 l4 l5 h; exact False.elim h
    | succ n ih =>
      intro l3 l4 l5 h
      have hB8 := ih
      have h : lbX7_closure_8 Q l0 l2 M (fun l3 l4 l5 => xlpn (fun (B : Int32 × Int32 × Int32 → Prop) a => lbX7_closure_8 Q l0 l2 M (fun l3 l4 l5 => B (l3, l4, l5)) a.1 a.2.1 a.2.2) n (l3, l4, l5)) l3 l4 l5 := h
      unfold lbX7_closure_8 at h
      refine x_iload dX7_closure_8 rfl 10 rfl ?_
      refine x_bipush dX7_closure_10 kb_16 12 rfl ?_
      refine x_icmp_gt dX7_closure_12 90 15 rfl rfl (fun hc => ?_) (fun hc => ?_)
      · have h := h.1 hc
        refine x_iload_n dX7_closure_90 rfl 91 rfl ?_
        exact x_iret dX7_closure_91 ⟨rfl, h⟩
      · have h := h.2 hc
        refine x_iload dX7_closure_15 rfl 17 rfl ?_
        refine x_if_eq dX7_closure_17 90 20 rfl rfl (fun hc => ?_) (fun hc => ?_)
        · have h := h.1 hc
          refine x_iload_n dX7_closure_90 rfl 91 rfl ?_
          exact x_iret dX7_closure_91 ⟨rfl, h⟩
        · have h := h.2 hc
          refine x_iload_n dX7_closure_20 rfl 21 rfl ?_
          refine x_istore dX7_closure_21 (Nat.le_of_ble_eq_true rfl) [(0, .ref l0), (2, .int l2), (3, .int l3), (4, .int l4), (5, .int l5), (6, .int l3)] rfl 23 rfl ?_
          refine x_iconst dX7_closure_23 kc_0 24 rfl ?_
          refine x_istore dX7_closure_24 (Nat.le_of_ble_eq_true rfl) [(0, .ref l0), (2, .int l2), (3, .int l3), (4, .int l4), (5, .int l5), (6, .int l3), (7, .int 0)] rfl 26 rfl ?_
          refine x_weak [(0, .ref l0), (2, .int l2), (3, .int l3), (5, .int l5), (6, .int l3), (7, .int 0)] [0, 1, 2, 4, 5, 6] rfl ?_
          exact nX7_closure_26 hB8 hk_l0 h
  exact hB8 n l3 l4 l5 h
def FX7_closure (Q : Int32 → Prop) (l0 : Nat) (l1 : Int32) (l2 : Int32) (M : Mem) : Prop :=
  NX7_closure_8 Q l0 l2 l1 1 0 M
theorem eX7_closure {Q : Int32 → Prop} {l0 : Nat} {l1 : Int32} {l2 : Int32} {M : Mem} (hk_l0 : SHk l0 = 7) (h : FX7_closure Q l0 l1 l2 M) : xX RX7 cX7_closure 8 (some .int) 1 0 [(0, .ref l0), (1, .int l1), (2, .int l2)] [] M (xQi (xP M Q)) := by
  unfold FX7_closure at h
  refine x_iload_n dX7_closure_0 rfl 1 rfl ?_
  refine x_istore_n dX7_closure_1 (Nat.le_of_ble_eq_true rfl) [(0, .ref l0), (1, .int l1), (2, .int l2), (3, .int l1)] rfl 2 rfl ?_
  refine x_iconst dX7_closure_2 kc_1 3 rfl ?_
  refine x_istore dX7_closure_3 (Nat.le_of_ble_eq_true rfl) [(0, .ref l0), (1, .int l1), (2, .int l2), (3, .int l1), (4, .int 1)] rfl 5 rfl ?_
  refine x_iconst dX7_closure_5 kc_0 6 rfl ?_
  refine x_istore dX7_closure_6 (Nat.le_of_ble_eq_true rfl) [(0, .ref l0), (1, .int l1), (2, .int l2), (3, .int l1), (4, .int 1), (5, .int 0)] rfl 8 rfl ?_
  refine x_weak [(0, .ref l0), (2, .int l2), (3, .int l1), (4, .int 1), (5, .int 0)] [0, 2, 3, 4, 5] rfl ?_
  exact nX7_closure_8 hk_l0 h
theorem cX7_closure_ {Q : Int32 → Prop} {l0 : Nat} {l1 : Int32} {l2 : Int32} {M : Mem} (hk_l0 : SHk l0 = 7) (h : FX7_closure Q l0 l1 l2 M) : xM yX7_closure cX7_closure 8 (some .int) 1 [.ref l0, .int l1, .int l2] M (xQi (xP M Q)) := xM_of (by decide +kernel) (Nat.le_of_ble_eq_true rfl) (eX7_closure hk_l0 h)
theorem kX7_closure {own : String} {cc : ByteArray} {nL : Nat} {rt : Option FieldType} {d pc ix : Nat} {L : List (Nat × Value)} {st : List Value} {M : Mem} {Rt : xGt → Array Value → State → Outcome → State → Prop} {Q : Int32 → Prop} {l0 : Nat} {l1 : Int32} {l2 : Int32} (hd : decode cc pc = .ok (.invokevirtual ix, 3)) (q : Nat) (hq : pc + 3 = q) (hk_l0 : SHk l0 = 7) (w1 : Cond.methodLink own ix yX7_closure ∈ xTs) (hr : 1 < d) (hst : (st.map fun v => v.category).sum ≤ 8) (h : FX7_closure Q l0 l1 l2 M) (k : ∀ (r : Int32), Q r → xX own cc nL rt d q L (.int r :: st) M Rt) : xX own cc nL rt d pc L (.int l2 :: .int l1 :: .ref l0 :: st) M Rt :=
  x_callV_i (n := 2) (As := [.int l1, .int l2]) hd q hq hk_l0 (by decide) rfl rfl w1 kw5_9 kw5_10 kw1_8 kw5_11 (by decide +kernel) rfl hr (by decide) hst _ rfl (cX7_closure_ hk_l0 h) (fun r N hN => by obtain ⟨rfl, hN⟩ := hN; exact k r hN)
