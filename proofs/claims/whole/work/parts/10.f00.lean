def FX10_copyFrom (Q : Mem → Prop) (l0 : Nat) (l1 : Nat) (M : Mem) : Prop :=
  ∀ M1 : Mem, M1 = xuC M (l0 + 1) (va_cpy (M (l1 + 1)) (M (l0 + 1)) 0 0 7) → ∀ M2 : Mem, M2 = xuC M1 (l0 + 2) (va_cpy (M1 (l1 + 2)) (M1 (l0 + 2)) 0 0 7) → ∀ M3 : Mem, M3 = xu M2 l0 3 (M2 l1 3) → Q M3
theorem eX10_copyFrom {Q : Mem → Prop} {l0 : Nat} {l1 : Nat} {M : Mem} (hk_l0 : SHk l0 = 10) (hk_l1 : SHk l1 = 10) (h : FX10_copyFrom Q l0 l1 M) : xX RX10 cX10_copyFrom 2 none 1 0 [(0, .ref l0), (1, .ref l1)] [] M (xQv Q) := by
  unfold FX10_copyFrom at h
  refine x_aload_n dX10_copyFrom_0 rfl 1 rfl ?_
  refine gf10_0 dX10_copyFrom_1 4 rfl hk_l1 kw1_235 ?_
  refine x_iconst dX10_copyFrom_4 kc_0 5 rfl ?_
  refine x_aload_n dX10_copyFrom_5 rfl 6 rfl ?_
  refine gf10_0 dX10_copyFrom_6 9 rfl hk_l0 kw1_235 ?_
  refine x_iconst dX10_copyFrom_9 kc_0 10 rfl ?_
  refine x_bipush dX10_copyFrom_10 kb_7 12 rfl ?_
  refine x_copy dX10_copyFrom_12 15 rfl kw5_144 kw3_34 kw3_33 kw1_16 (ly10_0 hk_l1) (ly10_0 hk_l0) (by decide) (by decide) (by decide) (by decide) (by decide) (by decide) (Nat.le_of_ble_eq_true rfl) (x_mem (fun M1 hM1 => ?_))
  have h := h M1 hM1
  refine x_aload_n dX10_copyFrom_15 rfl 16 rfl ?_
  refine gf10_1 dX10_copyFrom_16 19 rfl hk_l1 kw1_236 ?_
  refine x_iconst dX10_copyFrom_19 kc_0 20 rfl ?_
  refine x_aload_n dX10_copyFrom_20 rfl 21 rfl ?_
  refine gf10_1 dX10_copyFrom_21 24 rfl hk_l0 kw1_236 ?_
  refine x_iconst dX10_copyFrom_24 kc_0 25 rfl ?_
  refine x_bipush dX10_copyFrom_25 kb_7 27 rfl ?_
  refine x_copy dX10_copyFrom_27 30 rfl kw5_144 kw3_34 kw3_33 kw1_16 (ly10_1 hk_l1) (ly10_1 hk_l0) (by decide) (by decide) (by decide) (by decide) (by decide) (by decide) (Nat.le_of_ble_eq_true rfl) (x_mem (fun M2 hM2 => ?_))
  have h := h M2 hM2
  refine x_aload_n dX10_copyFrom_30 rfl 31 rfl ?_
  refine x_aload_n dX10_copyFrom_31 rfl 32 rfl ?_
  refine gf10_3 dX10_copyFrom_32 35 rfl hk_l1 kw1_238 ?_
  refine pf10_3 dX10_copyFrom_35 38 rfl hk_l0 kw1_238 (x_mem (fun M3 hM3 => ?_))
  have h := h M3 hM3
  exact x_vret dX10_copyFrom_38 h
theorem cX10_copyFrom_ {Q : Mem → Prop} {l0 : Nat} {l1 : Nat} {M : Mem} (hk_l0 : SHk l0 = 10) (hk_l1 : SHk l1 = 10) (h : FX10_copyFrom Q l0 l1 M) : xM yX10_copyFrom cX10_copyFrom 2 none 1 [.ref l0, .ref l1] M (xQv Q) := xM_of (by decide +kernel) (Nat.le_of_ble_eq_true rfl) (eX10_copyFrom hk_l0 hk_l1 h)
theorem kX10_copyFrom {own : String} {cc : ByteArray} {nL : Nat} {rt : Option FieldType} {d pc ix : Nat} {L : List (Nat × Value)} {st : List Value} {M : Mem} {Rt : xGt → Array Value → State → Outcome → State → Prop} {Q : Mem → Prop} {l0 : Nat} {l1 : Nat} (hd : decode cc pc = .ok (.invokevirtual ix, 3)) (q : Nat) (hq : pc + 3 = q) (hk_l0 : SHk l0 = 10) (hk_l1 : SHk l1 = 10) (w1 : Cond.methodLink own ix yX10_copyFrom ∈ xTs) (hr : 1 < d) (hst : (st.map fun v => v.category).sum ≤ 8) (h : FX10_copyFrom Q l0 l1 M) (k : ∀ (N : Mem), Q N → xX own cc nL rt d q L st N Rt) : xX own cc nL rt d pc L (.ref l1 :: .ref l0 :: st) M Rt :=
  x_callV_v (n := 1) (As := [.ref l1]) hd q hq hk_l0 (by decide) rfl rfl w1 kw5_141 kw5_142 kw1_9 kw5_143 (by decide +kernel) rfl hr (by decide) hst _ rfl (cX10_copyFrom_ hk_l0 hk_l1 h) k
def FX2_copyFrom (Q : Mem → Prop) (l0 : Nat) (l1 : Nat) (M : Mem) : Prop :=
  ∀ M1 : Mem, M1 = xuC M (l0 + 1) (va_cpy (M (l1 + 1)) (M (l0 + 1)) 0 0 400) → ∀ M2 : Mem, M2 = xuC M1 (l0 + 2) (va_cpy (M1 (l1 + 2)) (M1 (l0 + 2)) 0 0 16) → ∀ M3 : Mem, M3 = xuC M2 (l0 + 3) (va_cpy (M2 (l1 + 3)) (M2 (l0 + 3)) 0 0 16) → ∀ M4 : Mem, M4 = xuC M3 (l0 + 4) (va_cpy (M3 (l1 + 4)) (M3 (l0 + 4)) 0 0 16) → ∀ M5 : Mem, M5 = xuC M4 (l0 + 5) (va_cpy (M4 (l1 + 5)) (M4 (l0 + 5)) 0 0 16) → ∀ M6 : Mem, M6 = xu M5 l0 6 (M5 l1 6) → ∀ M7 : Mem, M7 = xu M6 l0 7 (M6 l1 7) → Q M7
theorem eX2_copyFrom {Q : Mem → Prop} {l0 : Nat} {l1 : Nat} {M : Mem} (hk_l0 : SHk l0 = 2) (hk_l1 : SHk l1 = 2) (h : FX2_copyFrom Q l0 l1 M) : xX RX2 cX2_copyFrom 2 none 1 0 [(0, .ref l0), (1, .ref l1)] [] M (xQv Q) := by
  unfold FX2_copyFrom at h
  refine x_aload_n dX2_copyFrom_0 rfl 1 rfl ?_
  refine gf2_0 dX2_copyFrom_1 4 rfl hk_l1 kw1_143 ?_
  refine x_iconst dX2_copyFrom_4 kc_0 5 rfl ?_
  refine x_aload_n dX2_copyFrom_5 rfl 6 rfl ?_
  refine gf2_0 dX2_copyFrom_6 9 rfl hk_l0 kw1_143 ?_
  refine x_iconst dX2_copyFrom_9 kc_0 10 rfl ?_
  refine x_sipush dX2_copyFrom_10 kh_400 13 rfl ?_
  refine x_copy dX2_copyFrom_13 16 rfl kw4_136 kw3_34 kw3_33 kw1_16 (ly2_0 hk_l1) (ly2_0 hk_l0) (by decide) (by decide) (by decide) (by decide) (by decide) (by decide) (Nat.le_of_ble_eq_true rfl) (x_mem (fun M1 hM1 => ?_))
  have h := h M1 hM1
  refine x_aload_n dX2_copyFrom_16 rfl 17 rfl ?_
  refine gf2_1 dX2_copyFrom_17 20 rfl hk_l1 kw1_144 ?_
  refine x_iconst dX2_copyFrom_20 kc_0 21 rfl ?_
  refine x_aload_n dX2_copyFrom_21 rfl 22 rfl ?_
  refine gf2_1 dX2_copyFrom_22 25 rfl hk_l0 kw1_144 ?_
  refine x_iconst dX2_copyFrom_25 kc_0 26 rfl ?_
  refine x_bipush dX2_copyFrom_26 kb_16 28 rfl ?_
  refine x_copy dX2_copyFrom_28 31 rfl kw4_136 kw3_34 kw3_33 kw1_16 (ly2_1 hk_l1) (ly2_1 hk_l0) (by decide) (by decide) (by decide) (by decide) (by decide) (by decide) (Nat.le_of_ble_eq_true rfl) (x_mem (fun M2 hM2 => ?_))
  have h := h M2 hM2
  refine x_aload_n dX2_copyFrom_31 rfl 32 rfl ?_
  refine gf2_2 dX2_copyFrom_32 35 rfl hk_l1 kw1_145 ?_
  refine x_iconst dX2_copyFrom_35 kc_0 36 rfl ?_
  refine x_aload_n dX2_copyFrom_36 rfl 37 rfl ?_
  refine gf2_2 dX2_copyFrom_37 40 rfl hk_l0 kw1_145 ?_
  refine x_iconst dX2_copyFrom_40 kc_0 41 rfl ?_
  refine x_bipush dX2_copyFrom_41 kb_16 43 rfl ?_
  refine x_copy dX2_copyFrom_43 46 rfl kw4_136 kw3_34 kw3_33 kw1_16 (ly2_2 hk_l1) (ly2_2 hk_l0) (by decide) (by decide) (by decide) (by decide) (by decide) (by decide) (Nat.le_of_ble_eq_true rfl) (x_mem (fun M3 hM3 => ?_))
  have h := h M3 hM3
  refine x_aload_n dX2_copyFrom_46 rfl 47 rfl ?_
  refine gf2_3 dX2_copyFrom_47 50 rfl hk_l1 kw1_146 ?_
  refine x_iconst dX2_copyFrom_50 kc_0 51 rfl ?_
  refine x_aload_n dX2_copyFrom_51 rfl 52 rfl ?_
  refine gf2_3 dX2_copyFrom_52 55 rfl hk_l0 kw1_146 ?_
  refine x_iconst dX2_copyFrom_55 kc_0 56 rfl ?_
  refine x_bipush dX2_copyFrom_56 kb_16 58 rfl ?_
  refine x_copy dX2_copyFrom_58 61 rfl kw4_136 kw3_34 kw3_33 kw1_16 (ly2_3 hk_l1) (ly2_3 hk_l0) (by decide) (by decide) (by decide) (by decide) (by decide) (by decide) (Nat.le_of_ble_eq_true rfl) (x_mem (fun M4 hM4 => ?_))
  have h := h M4 hM4
  refine x_aload_n dX2_copyFrom_61 rfl 62 rfl ?_
  refine gf2_4 dX2_copyFrom_62 65 rfl hk_l1 kw1_147 ?_
  refine x_iconst dX2_copyFrom_65 kc_0 66 rfl ?_
  refine x_aload_n dX2_copyFrom_66 rfl 67 rfl ?_
  refine gf2_4 dX2_copyFrom_67 70 rfl hk_l0 kw1_147 ?_
  refine x_iconst dX2_copyFrom_70 kc_0 71 rfl ?_
  refine x_bipush dX2_copyFrom_71 kb_16 73 rfl ?_
  refine x_copy dX2_copyFrom_73 76 rfl kw4_136 kw3_34 kw3_33 kw1_16 (ly2_4 hk_l1) (ly2_4 hk_l0) (by decide) (by decide) (by decide) (by decide) (by decide) (by decide) (Nat.le_of_ble_eq_true rfl) (x_mem (fun M5 hM5 => ?_))
  have h := h M5 hM5
  refine x_aload_n dX2_copyFrom_76 rfl 77 rfl ?_
  refine x_aload_n dX2_copyFrom_77 rfl 78 rfl ?_
  refine gf2_6 dX2_copyFrom_78 81 rfl hk_l1 kw1_149 ?_
  refine pf2_6 dX2_copyFrom_81 84 rfl hk_l0 kw1_149 (x_mem (fun M6 hM6 => ?_))
  have h := h M6 hM6
  refine x_aload_n dX2_copyFrom_84 rfl 85 rfl ?_
  refine x_aload_n dX2_copyFrom_85 rfl 86 rfl ?_
  refine gf2_7 dX2_copyFrom_86 89 rfl hk_l1 kw1_150 ?_
  refine pf2_7 dX2_copyFrom_89 92 rfl hk_l0 kw1_150 (x_mem (fun M7 hM7 => ?_))
  have h := h M7 hM7
  exact x_vret dX2_copyFrom_92 h
theorem cX2_copyFrom_ {Q : Mem → Prop} {l0 : Nat} {l1 : Nat} {M : Mem} (hk_l0 : SHk l0 = 2) (hk_l1 : SHk l1 = 2) (h : FX2_copyFrom Q l0 l1 M) : xM yX2_copyFrom cX2_copyFrom 2 none 1 [.ref l0, .ref l1] M (xQv Q) := xM_of (by decide +kernel) (Nat.le_of_ble_eq_true rfl) (eX2_copyFrom hk_l0 hk_l1 h)
theorem kX2_copyFrom {own : String} {cc : ByteArray} {nL : Nat} {rt : Option FieldType} {d pc ix : Nat} {L : List (Nat × Value)} {st : List Value} {M : Mem} {Rt : xGt → Array Value → State → Outcome → State → Prop} {Q : Mem → Prop} {l0 : Nat} {l1 : Nat} (hd : decode cc pc = .ok (.invokevirtual ix, 3)) (q : Nat) (hq : pc + 3 = q) (hk_l0 : SHk l0 = 2) (hk_l1 : SHk l1 = 2) (w1 : Cond.methodLink own ix yX2_copyFrom ∈ xTs) (hr : 1 < d) (hst : (st.map fun v => v.category).sum ≤ 8) (h : FX2_copyFrom Q l0 l1 M) (k : ∀ (N : Mem), Q N → xX own cc nL rt d q L st N Rt) : xX own cc nL rt d pc L (.ref l1 :: .ref l0 :: st) M Rt :=
  x_callV_v (n := 1) (As := [.ref l1]) hd q hq hk_l0 (by decide) rfl rfl w1 kw4_133 kw4_134 kw1_5 kw4_135 (by decide +kernel) rfl hr (by decide) hst _ rfl (cX2_copyFrom_ hk_l0 hk_l1 h) k
def FX4_copyFrom (Q : Mem → Prop) (l0 : Nat) (l1 : Nat) (M : Mem) : Prop :=
  ∀ M1 : Mem, M1 = xuC M (l0 + 1) (va_cpy (M (l1 + 1)) (M (l0 + 1)) 0 0 16) → ∀ M2 : Mem, M2 = xuC M1 (l0 + 2) (va_cpy (M1 (l1 + 2)) (M1 (l0 + 2)) 0 0 16) → ∀ M3 : Mem, M3 = xuC M2 (l0 + 3) (va_cpy (M2 (l1 + 3)) (M2 (l0 + 3)) 0 0 16) → ∀ M4 : Mem, M4 = xuC M3 (l0 + 4) (va_cpy (M3 (l1 + 4)) (M3 (l0 + 4)) 0 0 16) → ∀ M5 : Mem, M5 = xu M4 l0 4 (M4 l1 4) → Q M5
theorem eX4_copyFrom {Q : Mem → Prop} {l0 : Nat} {l1 : Nat} {M : Mem} (hk_l0 : SHk l0 = 4) (hk_l1 : SHk l1 = 4) (h : FX4_copyFrom Q l0 l1 M) : xX RX4 cX4_copyFrom 2 none 1 0 [(0, .ref l0), (1, .ref l1)] [] M (xQv Q) := by
  unfold FX4_copyFrom at h
  refine x_aload_n dX4_copyFrom_0 rfl 1 rfl ?_
  refine gf4_0 dX4_copyFrom_1 4 rfl hk_l1 kw1_193 ?_
  refine x_iconst dX4_copyFrom_4 kc_0 5 rfl ?_
  refine x_aload_n dX4_copyFrom_5 rfl 6 rfl ?_
  refine gf4_0 dX4_copyFrom_6 9 rfl hk_l0 kw1_193 ?_
  refine x_iconst dX4_copyFrom_9 kc_0 10 rfl ?_
  refine x_bipush dX4_copyFrom_10 kb_16 12 rfl ?_
  refine x_copy dX4_copyFrom_12 15 rfl kw4_146 kw3_34 kw3_33 kw1_16 (ly4_0 hk_l1) (ly4_0 hk_l0) (by decide) (by decide) (by decide) (by decide) (by decide) (by decide) (Nat.le_of_ble_eq_true rfl) (x_mem (fun M1 hM1 => ?_))
  have h := h M1 hM1
  refine x_aload_n dX4_copyFrom_15 rfl 16 rfl ?_
  refine gf4_1 dX4_copyFrom_16 19 rfl hk_l1 kw1_194 ?_
  refine x_iconst dX4_copyFrom_19 kc_0 20 rfl ?_
  refine x_aload_n dX4_copyFrom_20 rfl 21 rfl ?_
  refine gf4_1 dX4_copyFrom_21 24 rfl hk_l0 kw1_194 ?_
  refine x_iconst dX4_copyFrom_24 kc_0 25 rfl ?_
  refine x_bipush dX4_copyFrom_25 kb_16 27 rfl ?_
  refine x_copy dX4_copyFrom_27 30 rfl kw4_146 kw3_34 kw3_33 kw1_16 (ly4_1 hk_l1) (ly4_1 hk_l0) (by decide) (by decide) (by decide) (by decide) (by decide) (by decide) (Nat.le_of_ble_eq_true rfl) (x_mem (fun M2 hM2 => ?_))
  have h := h M2 hM2
  refine x_aload_n dX4_copyFrom_30 rfl 31 rfl ?_
  refine gf4_2 dX4_copyFrom_31 34 rfl hk_l1 kw1_195 ?_
  refine x_iconst dX4_copyFrom_34 kc_0 35 rfl ?_
  refine x_aload_n dX4_copyFrom_35 rfl 36 rfl ?_
  refine gf4_2 dX4_copyFrom_36 39 rfl hk_l0 kw1_195 ?_
  refine x_iconst dX4_copyFrom_39 kc_0 40 rfl ?_
  refine x_bipush dX4_copyFrom_40 kb_16 42 rfl ?_
  refine x_copy dX4_copyFrom_42 45 rfl kw4_146 kw3_34 kw3_33 kw1_16 (ly4_2 hk_l1) (ly4_2 hk_l0) (by decide) (by decide) (by decide) (by decide) (by decide) (by decide) (Nat.le_of_ble_eq_true rfl) (x_mem (fun M3 hM3 => ?_))
  have h := h M3 hM3
  refine x_aload_n dX4_copyFrom_45 rfl 46 rfl ?_
  refine gf4_3 dX4_copyFrom_46 49 rfl hk_l1 kw1_196 ?_
  refine x_iconst dX4_copyFrom_49 kc_0 50 rfl ?_
  refine x_aload_n dX4_copyFrom_50 rfl 51 rfl ?_
  refine gf4_3 dX4_copyFrom_51 54 rfl hk_l0 kw1_196 ?_
  refine x_iconst dX4_copyFrom_54 kc_0 55 rfl ?_
  refine x_bipush dX4_copyFrom_55 kb_16 57 rfl ?_
  refine x_copy dX4_copyFrom_57 60 rfl kw4_146 kw3_34 kw3_33 kw1_16 (ly4_3 hk_l1) (ly4_3 hk_l0) (by decide) (by decide) (by decide) (by decide) (by decide) (by decide) (Nat.le_of_ble_eq_true rfl) (x_mem (fun M4 hM4 => ?_))
  have h := h M4 hM4
  refine x_aload_n dX4_copyFrom_60 rfl 61 rfl ?_
  refine x_aload_n dX4_copyFrom_61 rfl 62 rfl ?_
  refine gf4_4 dX4_copyFrom_62 65 rfl hk_l1 kw1_197 ?_
  refine pf4_4 dX4_copyFrom_65 68 rfl hk_l0 kw1_197 (x_mem (fun M5 hM5 => ?_))
  have h := h M5 hM5
  exact x_vret dX4_copyFrom_68 h
theorem cX4_copyFrom_ {Q : Mem → Prop} {l0 : Nat} {l1 : Nat} {M : Mem} (hk_l0 : SHk l0 = 4) (hk_l1 : SHk l1 = 4) (h : FX4_copyFrom Q l0 l1 M) : xM yX4_copyFrom cX4_copyFrom 2 none 1 [.ref l0, .ref l1] M (xQv Q) := xM_of (by decide +kernel) (Nat.le_of_ble_eq_true rfl) (eX4_copyFrom hk_l0 hk_l1 h)
theorem kX4_copyFrom {own : String} {cc : ByteArray} {nL : Nat} {rt : Option FieldType} {d pc ix : Nat} {L : List (Nat × Value)} {st : List Value} {M : Mem} {Rt : xGt → Array Value → State → Outcome → State → Prop} {Q : Mem → Prop} {l0 : Nat} {l1 : Nat} (hd : decode cc pc = .ok (.invokevirtual ix, 3)) (q : Nat) (hq : pc + 3 = q) (hk_l0 : SHk l0 = 4) (hk_l1 : SHk l1 = 4) (w1 : Cond.methodLink own ix yX4_copyFrom ∈ xTs) (hr : 1 < d) (hst : (st.map fun v => v.category).sum ≤ 8) (h : FX4_copyFrom Q l0 l1 M) (k : ∀ (N : Mem), Q N → xX own cc nL rt d q L st N Rt) : xX own cc nL rt d pc L (.ref l1 :: .ref l0 :: st) M Rt :=
  x_callV_v (n := 1) (As := [.ref l1]) hd q hq hk_l0 (by decide) rfl rfl w1 kw4_143 kw4_144 kw1_7 kw4_145 (by decide +kernel) rfl hr (by decide) hst _ rfl (cX4_copyFrom_ hk_l0 hk_l1 h) k
def FX6_copyFrom (Q : Mem → Prop) (l0 : Nat) (l1 : Nat) (M : Mem) : Prop :=
  ∀ M1 : Mem, M1 = xuC M (l0 + 1) (va_cpy (M (l1 + 1)) (M (l0 + 1)) 0 0 16) → ∀ M2 : Mem, M2 = xuC M1 (l0 + 2) (va_cpy (M1 (l1 + 2)) (M1 (l0 + 2)) 0 0 16) → ∀ M3 : Mem, M3 = xu M2 l0 2 (M2 l1 2) → Q M3
theorem eX6_copyFrom {Q : Mem → Prop} {l0 : Nat} {l1 : Nat} {M : Mem} (hk_l0 : SHk l0 = 6) (hk_l1 : SHk l1 = 6) (h : FX6_copyFrom Q l0 l1 M) : xX RX6 cX6_copyFrom 2 none 1 0 [(0, .ref l0), (1, .ref l1)] [] M (xQv Q) := by
  unfold FX6_copyFrom at h
  refine x_aload_n dX6_copyFrom_0 rfl 1 rfl ?_
  refine gf6_0 dX6_copyFrom_1 4 rfl hk_l1 kw1_175 ?_
  refine x_iconst dX6_copyFrom_4 kc_0 5 rfl ?_
  refine x_aload_n dX6_copyFrom_5 rfl 6 rfl ?_
  refine gf6_0 dX6_copyFrom_6 9 rfl hk_l0 kw1_175 ?_
  refine x_iconst dX6_copyFrom_9 kc_0 10 rfl ?_
  refine x_bipush dX6_copyFrom_10 kb_16 12 rfl ?_
  refine x_copy dX6_copyFrom_12 15 rfl kw4_141 kw3_34 kw3_33 kw1_16 (ly6_0 hk_l1) (ly6_0 hk_l0) (by decide) (by decide) (by decide) (by decide) (by decide) (by decide) (Nat.le_of_ble_eq_true rfl) (x_mem (fun M1 hM1 => ?_))
  have h := h M1 hM1
  refine x_aload_n dX6_copyFrom_15 rfl 16 rfl ?_
  refine gf6_1 dX6_copyFrom_16 19 rfl hk_l1 kw1_176 ?_
  refine x_iconst dX6_copyFrom_19 kc_0 20 rfl ?_
  refine x_aload_n dX6_copyFrom_20 rfl 21 rfl ?_
  refine gf6_1 dX6_copyFrom_21 24 rfl hk_l0 kw1_176 ?_
  refine x_iconst dX6_copyFrom_24 kc_0 25 rfl ?_
  refine x_bipush dX6_copyFrom_25 kb_16 27 rfl ?_
  refine x_copy dX6_copyFrom_27 30 rfl kw4_141 kw3_34 kw3_33 kw1_16 (ly6_1 hk_l1) (ly6_1 hk_l0) (by decide) (by decide) (by decide) (by decide) (by decide) (by decide) (Nat.le_of_ble_eq_true rfl) (x_mem (fun M2 hM2 => ?_))
  have h := h M2 hM2
  refine x_aload_n dX6_copyFrom_30 rfl 31 rfl ?_
  refine x_aload_n dX6_copyFrom_31 rfl 32 rfl ?_
  refine gf6_2 dX6_copyFrom_32 35 rfl hk_l1 kw1_177 ?_
  refine pf6_2 dX6_copyFrom_35 38 rfl hk_l0 kw1_177 (x_mem (fun M3 hM3 => ?_))
  have h := h M3 hM3
  exact x_vret dX6_copyFrom_38 h
theorem cX6_copyFrom_ {Q : Mem → Prop} {l0 : Nat} {l1 : Nat} {M : Mem} (hk_l0 : SHk l0 = 6) (hk_l1 : SHk l1 = 6) (h : FX6_copyFrom Q l0 l1 M) : xM yX6_copyFrom cX6_copyFrom 2 none 1 [.ref l0, .ref l1] M (xQv Q) := xM_of (by decide +kernel) (Nat.le_of_ble_eq_true rfl) (eX6_copyFrom hk_l0 hk_l1 h)
theorem kX6_copyFrom {own : String} {cc : ByteArray} {nL : Nat} {rt : Option FieldType} {d pc ix : Nat} {L : List (Nat × Value)} {st : List Value} {M : Mem} {Rt : xGt → Array Value → State → Outcome → State → Prop} {Q : Mem → Prop} {l0 : Nat} {l1 : Nat} (hd : decode cc pc = .ok (.invokevirtual ix, 3)) (q : Nat) (hq : pc + 3 = q) (hk_l0 : SHk l0 = 6) (hk_l1 : SHk l1 = 6) (w1 : Cond.methodLink own ix yX6_copyFrom ∈ xTs) (hr : 1 < d) (hst : (st.map fun v => v.category).sum ≤ 8) (h : FX6_copyFrom Q l0 l1 M) (k : ∀ (N : Mem), Q N → xX own cc nL rt d q L st N Rt) : xX own cc nL rt d pc L (.ref l1 :: .ref l0 :: st) M Rt :=
  x_callV_v (n := 1) (As := [.ref l1]) hd q hq hk_l0 (by decide) rfl rfl w1 kw4_138 kw4_139 kw1_6 kw4_140 (by decide +kernel) rfl hr (by decide) hst _ rfl (cX6_copyFrom_ hk_l0 hk_l1 h) k
def FX7_copyFrom (Q : Mem → Prop) (l0 : Nat) (l1 : Nat) (M : Mem) : Prop :=
  ∀ M1 : Mem, M1 = xuC M (l0 + 1) (va_cpy (M (l1 + 1)) (M (l0 + 1)) 0 0 16) → ∀ M2 : Mem, M2 = xuC M1 (l0 + 2) (va_cpy (M1 (l1 + 2)) (M1 (l0 + 2)) 0 0 16) → ∀ M3 : Mem, M3 = xu M2 l0 2 (M2 l1 2) → Q M3
theorem eX7_copyFrom {Q : Mem → Prop} {l0 : Nat} {l1 : Nat} {M : Mem} (hk_l0 : SHk l0 = 7) (hk_l1 : SHk l1 = 7) (h : FX7_copyFrom Q l0 l1 M) : xX RX7 cX7_copyFrom 2 none 1 0 [(0, .ref l0), (1, .ref l1)] [] M (xQv Q) := by
  unfold FX7_copyFrom at h
  refine x_aload_n dX7_copyFrom_0 rfl 1 rfl ?_
  refine gf7_0 dX7_copyFrom_1 4 rfl hk_l1 kw1_217 ?_
  refine x_iconst dX7_copyFrom_4 kc_0 5 rfl ?_
  refine x_aload_n dX7_copyFrom_5 rfl 6 rfl ?_
  refine gf7_0 dX7_copyFrom_6 9 rfl hk_l0 kw1_217 ?_
  refine x_iconst dX7_copyFrom_9 kc_0 10 rfl ?_
  refine x_bipush dX7_copyFrom_10 kb_16 12 rfl ?_
  refine x_copy dX7_copyFrom_12 15 rfl kw4_151 kw3_34 kw3_33 kw1_16 (ly7_0 hk_l1) (ly7_0 hk_l0) (by decide) (by decide) (by decide) (by decide) (by decide) (by decide) (Nat.le_of_ble_eq_true rfl) (x_mem (fun M1 hM1 => ?_))
  have h := h M1 hM1
  refine x_aload_n dX7_copyFrom_15 rfl 16 rfl ?_
  refine gf7_1 dX7_copyFrom_16 19 rfl hk_l1 kw1_218 ?_
  refine x_iconst dX7_copyFrom_19 kc_0 20 rfl ?_
  refine x_aload_n dX7_copyFrom_20 rfl 21 rfl ?_
  refine gf7_1 dX7_copyFrom_21 24 rfl hk_l0 kw1_218 ?_
  refine x_iconst dX7_copyFrom_24 kc_0 25 rfl ?_
  refine x_bipush dX7_copyFrom_25 kb_16 27 rfl ?_
  refine x_copy dX7_copyFrom_27 30 rfl kw4_151 kw3_34 kw3_33 kw1_16 (ly7_1 hk_l1) (ly7_1 hk_l0) (by decide) (by decide) (by decide) (by decide) (by decide) (by decide) (Nat.le_of_ble_eq_true rfl) (x_mem (fun M2 hM2 => ?_))
  have h := h M2 hM2
  refine x_aload_n dX7_copyFrom_30 rfl 31 rfl ?_
  refine x_aload_n dX7_copyFrom_31 rfl 32 rfl ?_
  refine gf7_2 dX7_copyFrom_32 35 rfl hk_l1 kw1_219 ?_
  refine pf7_2 dX7_copyFrom_35 38 rfl hk_l0 kw1_219 (x_mem (fun M3 hM3 => ?_))
  have h := h M3 hM3
  exact x_vret dX7_copyFrom_38 h
theorem cX7_copyFrom_ {Q : Mem → Prop} {l0 : Nat} {l1 : Nat} {M : Mem} (hk_l0 : SHk l0 = 7) (hk_l1 : SHk l1 = 7) (h : FX7_copyFrom Q l0 l1 M) : xM yX7_copyFrom cX7_copyFrom 2 none 1 [.ref l0, .ref l1] M (xQv Q) := xM_of (by decide +kernel) (Nat.le_of_ble_eq_true rfl) (eX7_copyFrom hk_l0 hk_l1 h)
theorem kX7_copyFrom {own : String} {cc : ByteArray} {nL : Nat} {rt : Option FieldType} {d pc ix : Nat} {L : List (Nat × Value)} {st : List Value} {M : Mem} {Rt : xGt → Array Value → State → Outcome → State → Prop} {Q : Mem → Prop} {l0 : Nat} {l1 : Nat} (hd : decode cc pc = .ok (.invokevirtual ix, 3)) (q : Nat) (hq : pc + 3 = q) (hk_l0 : SHk l0 = 7) (hk_l1 : SHk l1 = 7) (w1 : Cond.methodLink own ix yX7_copyFrom ∈ xTs) (hr : 1 < d) (hst : (st.map fun v => v.category).sum ≤ 8) (h : FX7_copyFrom Q l0 l1 M) (k : ∀ (N : Mem), Q N → xX own cc nL rt d q L st N Rt) : xX own cc nL rt d pc L (.ref l1 :: .ref l0 :: st) M Rt :=
  x_callV_v (n := 1) (As := [.ref l1]) hd q hq hk_l0 (by decide) rfl rfl w1 kw4_148 kw4_149 kw1_8 kw4_150 (by decide +kernel) rfl hr (by decide) hst _ rfl (cX7_copyFrom_ hk_l0 hk_l1 h) k
def FJ9_min_7cf53 (Q : Int32 → Prop) (l0 : Int32) (l1 : Int32) (M : Mem) : Prop :=
  ((l1 < l0 → Q l1) ∧ (¬ l1 < l0 → Q l0))
theorem eJ9_min_7cf53 {Q : Int32 → Prop} {l0 : Int32} {l1 : Int32} {M : Mem} (h : FJ9_min_7cf53 Q l0 l1 M) : xX RJ9 cJ9_min_7cf53 2 (some .int) 1 0 [(0, .int l0), (1, .int l1)] [] M (xQi (xP M Q)) := by
  unfold FJ9_min_7cf53 at h
  refine x_iload_n dJ9_min_7cf53_0 rfl 1 rfl ?_
  refine x_iload_n dJ9_min_7cf53_1 rfl 2 rfl ?_
  refine x_icmp_gt dJ9_min_7cf53_2 9 5 rfl rfl (fun hc => ?_) (fun hc => ?_)
  · have h := h.1 hc
    refine x_iload_n dJ9_min_7cf53_9 rfl 10 rfl ?_
    exact x_iret dJ9_min_7cf53_10 ⟨rfl, h⟩
  · have h := h.2 hc
    refine x_iload_n dJ9_min_7cf53_5 rfl 6 rfl ?_
    refine x_goto dJ9_min_7cf53_6 10 rfl ?_
    exact x_iret dJ9_min_7cf53_10 ⟨rfl, h⟩
theorem cJ9_min_7cf53_ {Q : Int32 → Prop} {l0 : Int32} {l1 : Int32} {M : Mem} (h : FJ9_min_7cf53 Q l0 l1 M) : xM yJ9_min_7cf53 cJ9_min_7cf53 2 (some .int) 1 [.int l0, .int l1] M (xQi (xP M Q)) := xM_ofF (by decide +kernel) (Nat.le_of_ble_eq_true rfl) (eJ9_min_7cf53 h)
theorem kJ9_min_7cf53 {own : String} {cc : ByteArray} {nL : Nat} {rt : Option FieldType} {d pc ix : Nat} {L : List (Nat × Value)} {st : List Value} {M : Mem} {Rt : xGt → Array Value → State → Outcome → State → Prop} {Q : Int32 → Prop} {l0 : Int32} {l1 : Int32} (hd : decode cc pc = .ok (.invokestatic ix, 3)) (q : Nat) (hq : pc + 3 = q) (w1 : Cond.methodLink own ix yJ9_min_7cf53 ∈ xTs) (hr : 1 < d) (hst : (st.map fun v => v.category).sum ≤ 8) (h : FJ9_min_7cf53 Q l0 l1 M) (k : ∀ (r : Int32), Q r → xX own cc nL rt d q L (.int r :: st) M Rt) : xX own cc nL rt d pc L (.int l1 :: .int l0 :: st) M Rt :=
  x_callS_i (n := 2) (As := [.int l0, .int l1]) hd q hq w1 kw3_30 kw1_15 kw3_31 (by decide +kernel) rfl hr (by decide) hst _ rfl (cJ9_min_7cf53_ h) (fun r N hN => by obtain ⟨rfl, hN⟩ := hN; exact k r hN)
def FX9_copyFrom (Q : Mem → Prop) (l0 : Nat) (l1 : Nat) (M : Mem) : Prop :=
  FJ9_min_7cf53 (fun (r1 : Int32) => (¬ r1 < 0) ∧ (0 + ix r1 ≤ (SHn (l1 + 9))) ∧ (0 + ix r1 ≤ (SHn (l0 + 9))) ∧ ∀ M5 : Mem, M5 = xuC M (l0 + 9) (va_cpy (M (l1 + 9)) (M (l0 + 9)) 0 0 (ix r1)) → ∀ M6 : Mem, M6 = xuC M5 (l0 + 1) (va_cpy (M5 (l1 + 1)) (M5 (l0 + 1)) 0 0 10) → ∀ M7 : Mem, M7 = xuC M6 (l0 + 2) (va_cpy (M6 (l1 + 2)) (M6 (l0 + 2)) 0 0 10) → ∀ M8 : Mem, M8 = xuC M7 (l0 + 3) (va_cpy (M7 (l1 + 3)) (M7 (l0 + 3)) 0 0 10) → ∀ M9 : Mem, M9 = xuC M8 (l0 + 4) (va_cpy (M8 (l1 + 4)) (M8 (l0 + 4)) 0 0 14) → ∀ M10 : Mem, M10 = xuC M9 (l0 + 5) (va_cpy (M9 (l1 + 5)) (M9 (l0 + 5)) 0 0 14) → ∀ M11 : Mem, M11 = xuC M10 (l0 + 6) (va_cpy (M10 (l1 + 6)) (M10 (l0 + 6)) 0 0 14) → ∀ M12 : Mem, M12 = xuC M11 (l0 + 7) (va_cpy (M11 (l1 + 7)) (M11 (l0 + 7)) 0 0 14) → ∀ M13 : Mem, M13 = xuC M12 (l0 + 8) (va_cpy (M12 (l1 + 8)) (M12 (l0 + 8)) 0 0 14) → ∀ M14 : Mem, M14 = xu M13 l0 9 (M13 l1 9) → ∀ M15 : Mem, M15 = xu M14 l0 10 (M14 l1 10) → ∀ M16 : Mem, M16 = xu M15 l0 11 (M15 l1 11) → ∀ M17 : Mem, M17 = xu M16 l0 12 (M16 l1 12) → ∀ M18 : Mem, M18 = xu M17 l0 13 (M17 l1 13) → ∀ M19 : Mem, M19 = xu M18 l0 14 (M18 l1 14) → ∀ M20 : Mem, M20 = xu M19 l0 15 (M19 l1 15) → ∀ M21 : Mem, M21 = xu M20 l0 16 (M20 l1 16) → ∀ M22 : Mem, M22 = xu M21 l0 17 (M21 l1 17) → ∀ M23 : Mem, M23 = xu M22 l0 18 (M22 l1 18) → Q M23) (Int32.ofNat (SHn (l1 + 9))) (Int32.ofNat (SHn (l0 + 9))) M
theorem eX9_copyFrom {Q : Mem → Prop} {l0 : Nat} {l1 : Nat} {M : Mem} (hk_l0 : SHk l0 = 9) (hk_l1 : SHk l1 = 9) (h : FX9_copyFrom Q l0 l1 M) : xX RX9 cX9_copyFrom 2 none 2 0 [(0, .ref l0), (1, .ref l1)] [] M (xQv Q) := by
  unfold FX9_copyFrom at h
  refine x_aload_n dX9_copyFrom_0 rfl 1 rfl ?_
  refine gf9_0 dX9_copyFrom_1 4 rfl hk_l1 kw1_45 ?_
  refine x_iconst dX9_copyFrom_4 kc_0 5 rfl ?_
  refine x_aload_n dX9_copyFrom_5 rfl 6 rfl ?_
  refine gf9_0 dX9_copyFrom_6 9 rfl hk_l0 kw1_45 ?_
  refine x_iconst dX9_copyFrom_9 kc_0 10 rfl ?_
  refine x_aload_n dX9_copyFrom_10 rfl 11 rfl ?_
  refine gf9_0 dX9_copyFrom_11 14 rfl hk_l1 kw1_45 ?_
  refine x_alen (n := Int32.ofNat (SHn (l1 + 9))) dX9_copyFrom_14 ⟨ly9_0 hk_l1, rfl⟩ rfl 15 rfl ?_
  refine x_aload_n dX9_copyFrom_15 rfl 16 rfl ?_
  refine gf9_0 dX9_copyFrom_16 19 rfl hk_l0 kw1_45 ?_
  refine x_alen (n := Int32.ofNat (SHn (l0 + 9))) dX9_copyFrom_19 ⟨ly9_0 hk_l0, rfl⟩ rfl 20 rfl ?_
  refine kJ9_min_7cf53 dX9_copyFrom_20 23 rfl kw3_29 (Nat.le_of_ble_eq_true rfl) (Nat.le_of_ble_eq_true rfl) h (fun r1 h => ?_)
  obtain ⟨hx2, h⟩ := h
  obtain ⟨hx3, h⟩ := h
  obtain ⟨hx4, h⟩ := h
  refine x_copy dX9_copyFrom_23 26 rfl kw3_32 kw3_34 kw3_33 kw1_16 ⟨ly9_0 hk_l1, rfl⟩ ⟨ly9_0 hk_l0, rfl⟩ (by decide) (by decide) hx2 hx3 hx4 (by decide) (Nat.le_of_ble_eq_true rfl) (x_mem (fun M5 hM5 => ?_))
  have h := h M5 hM5
  refine x_aload_n dX9_copyFrom_26 rfl 27 rfl ?_
  refine gf9_1 dX9_copyFrom_27 30 rfl hk_l1 kw1_46 ?_
  refine x_iconst dX9_copyFrom_30 kc_0 31 rfl ?_
  refine x_aload_n dX9_copyFrom_31 rfl 32 rfl ?_
  refine gf9_1 dX9_copyFrom_32 35 rfl hk_l0 kw1_46 ?_
  refine x_iconst dX9_copyFrom_35 kc_0 36 rfl ?_
  refine x_bipush dX9_copyFrom_36 kb_10 38 rfl ?_
  refine x_copy dX9_copyFrom_38 41 rfl kw3_32 kw3_34 kw3_33 kw1_16 (ly9_1 hk_l1) (ly9_1 hk_l0) (by decide) (by decide) (by decide) (by decide) (by decide) (by decide) (Nat.le_of_ble_eq_true rfl) (x_mem (fun M6 hM6 => ?_))
  have h := h M6 hM6
  refine x_aload_n dX9_copyFrom_41 rfl 42 rfl ?_
  refine gf9_2 dX9_copyFrom_42 45 rfl hk_l1 kw1_50 ?_
  refine x_iconst dX9_copyFrom_45 kc_0 46 rfl ?_
  refine x_aload_n dX9_copyFrom_46 rfl 47 rfl ?_
  refine gf9_2 dX9_copyFrom_47 50 rfl hk_l0 kw1_50 ?_
  refine x_iconst dX9_copyFrom_50 kc_0 51 rfl ?_
  refine x_bipush dX9_copyFrom_51 kb_10 53 rfl ?_
  refine x_copy dX9_copyFrom_53 56 rfl kw3_32 kw3_34 kw3_33 kw1_16 (ly9_2 hk_l1) (ly9_2 hk_l0) (by decide) (by decide) (by decide) (by decide) (by decide) (by decide) (Nat.le_of_ble_eq_true rfl) (x_mem (fun M7 hM7 => ?_))
  have h := h M7 hM7
  refine x_aload_n dX9_copyFrom_56 rfl 57 rfl ?_
  refine gf9_3 dX9_copyFrom_57 60 rfl hk_l1 kw1_52 ?_
  refine x_iconst dX9_copyFrom_60 kc_0 61 rfl ?_
  refine x_aload_n dX9_copyFrom_61 rfl 62 rfl ?_
  refine gf9_3 dX9_copyFrom_62 65 rfl hk_l0 kw1_52 ?_
  refine x_iconst dX9_copyFrom_65 kc_0 66 rfl ?_
  refine x_bipush dX9_copyFrom_66 kb_10 68 rfl ?_
  refine x_copy dX9_copyFrom_68 71 rfl kw3_32 kw3_34 kw3_33 kw1_16 (ly9_3 hk_l1) (ly9_3 hk_l0) (by decide) (by decide) (by decide) (by decide) (by decide) (by decide) (Nat.le_of_ble_eq_true rfl) (x_mem (fun M8 hM8 => ?_))
  have h := h M8 hM8
  refine x_aload_n dX9_copyFrom_71 rfl 72 rfl ?_
  refine gf9_4 dX9_copyFrom_72 75 rfl hk_l1 kw1_55 ?_
  refine x_iconst dX9_copyFrom_75 kc_0 76 rfl ?_
  refine x_aload_n dX9_copyFrom_76 rfl 77 rfl ?_
  refine gf9_4 dX9_copyFrom_77 80 rfl hk_l0 kw1_55 ?_
  refine x_iconst dX9_copyFrom_80 kc_0 81 rfl ?_
  refine x_bipush dX9_copyFrom_81 kb_14 83 rfl ?_
  refine x_copy dX9_copyFrom_83 86 rfl kw3_32 kw3_34 kw3_33 kw1_16 (ly9_4 hk_l1) (ly9_4 hk_l0) (by decide) (by decide) (by decide) (by decide) (by decide) (by decide) (Nat.le_of_ble_eq_true rfl) (x_mem (fun M9 hM9 => ?_))
  have h := h M9 hM9
  refine x_aload_n dX9_copyFrom_86 rfl 87 rfl ?_
  refine gf9_5 dX9_copyFrom_87 90 rfl hk_l1 kw1_58 ?_
  refine x_iconst dX9_copyFrom_90 kc_0 91 rfl ?_
  refine x_aload_n dX9_copyFrom_91 rfl 92 rfl ?_
  refine gf9_5 dX9_copyFrom_92 95 rfl hk_l0 kw1_58 ?_
  refine x_iconst dX9_copyFrom_95 kc_0 96 rfl ?_
  refine x_bipush dX9_copyFrom_96 kb_14 98 rfl ?_
  refine x_copy dX9_copyFrom_98 101 rfl kw3_32 kw3_34 kw3_33 kw1_16 (ly9_5 hk_l1) (ly9_5 hk_l0) (by decide) (by decide) (by decide) (by decide) (by decide) (by decide) (Nat.le_of_ble_eq_true rfl) (x_mem (fun M10 hM10 => ?_))
  have h := h M10 hM10
  refine x_aload_n dX9_copyFrom_101 rfl 102 rfl ?_
  refine gf9_6 dX9_copyFrom_102 105 rfl hk_l1 kw1_60 ?_
  refine x_iconst dX9_copyFrom_105 kc_0 106 rfl ?_
  refine x_aload_n dX9_copyFrom_106 rfl 107 rfl ?_
  refine gf9_6 dX9_copyFrom_107 110 rfl hk_l0 kw1_60 ?_
  refine x_iconst dX9_copyFrom_110 kc_0 111 rfl ?_
  refine x_bipush dX9_copyFrom_111 kb_14 113 rfl ?_
  refine x_copy dX9_copyFrom_113 116 rfl kw3_32 kw3_34 kw3_33 kw1_16 (ly9_6 hk_l1) (ly9_6 hk_l0) (by decide) (by decide) (by decide) (by decide) (by decide) (by decide) (Nat.le_of_ble_eq_true rfl) (x_mem (fun M11 hM11 => ?_))
  have h := h M11 hM11
  refine x_aload_n dX9_copyFrom_116 rfl 117 rfl ?_
  refine gf9_7 dX9_copyFrom_117 120 rfl hk_l1 kw1_63 ?_
  refine x_iconst dX9_copyFrom_120 kc_0 121 rfl ?_
  refine x_aload_n dX9_copyFrom_121 rfl 122 rfl ?_
  refine gf9_7 dX9_copyFrom_122 125 rfl hk_l0 kw1_63 ?_
  refine x_iconst dX9_copyFrom_125 kc_0 126 rfl ?_
  refine x_bipush dX9_copyFrom_126 kb_14 128 rfl ?_
  refine x_copy dX9_copyFrom_128 131 rfl kw3_32 kw3_34 kw3_33 kw1_16 (ly9_7 hk_l1) (ly9_7 hk_l0) (by decide) (by decide) (by decide) (by decide) (by decide) (by decide) (Nat.le_of_ble_eq_true rfl) (x_mem (fun M12 hM12 => ?_))
  have h := h M12 hM12
  refine x_aload_n dX9_copyFrom_131 rfl 132 rfl ?_
  refine gf9_8 dX9_copyFrom_132 135 rfl hk_l1 kw1_65 ?_
  refine x_iconst dX9_copyFrom_135 kc_0 136 rfl ?_
  refine x_aload_n dX9_copyFrom_136 rfl 137 rfl ?_
  refine gf9_8 dX9_copyFrom_137 140 rfl hk_l0 kw1_65 ?_
  refine x_iconst dX9_copyFrom_140 kc_0 141 rfl ?_
  refine x_bipush dX9_copyFrom_141 kb_14 143 rfl ?_
  refine x_copy dX9_copyFrom_143 146 rfl kw3_32 kw3_34 kw3_33 kw1_16 (ly9_8 hk_l1) (ly9_8 hk_l0) (by decide) (by decide) (by decide) (by decide) (by decide) (by decide) (Nat.le_of_ble_eq_true rfl) (x_mem (fun M13 hM13 => ?_))
  have h := h M13 hM13
  refine x_aload_n dX9_copyFrom_146 rfl 147 rfl ?_
  refine x_aload_n dX9_copyFrom_147 rfl 148 rfl ?_
  refine gf9_9 dX9_copyFrom_148 151 rfl hk_l1 kw1_66 ?_
  refine pf9_9 dX9_copyFrom_151 154 rfl hk_l0 kw1_66 (x_mem (fun M14 hM14 => ?_))
  have h := h M14 hM14
  refine x_aload_n dX9_copyFrom_154 rfl 155 rfl ?_
  refine x_aload_n dX9_copyFrom_155 rfl 156 rfl ?_
  refine gf9_10 dX9_copyFrom_156 159 rfl hk_l1 kw1_68 ?_
  refine pf9_10 dX9_copyFrom_159 162 rfl hk_l0 kw1_68 (x_mem (fun M15 hM15 => ?_))
  have h := h M15 hM15
  refine x_aload_n dX9_copyFrom_162 rfl 163 rfl ?_
  refine x_aload_n dX9_copyFrom_163 rfl 164 rfl ?_
  refine gf9_11 dX9_copyFrom_164 167 rfl hk_l1 kw1_72 ?_
  refine pf9_11 dX9_copyFrom_167 170 rfl hk_l0 kw1_72 (x_mem (fun M16 hM16 => ?_))
  have h := h M16 hM16
  refine x_aload_n dX9_copyFrom_170 rfl 171 rfl ?_
  refine x_aload_n dX9_copyFrom_171 rfl 172 rfl ?_
  refine gf9_12 dX9_copyFrom_172 175 rfl hk_l1 kw1_76 ?_
  refine pf9_12 dX9_copyFrom_175 178 rfl hk_l0 kw1_76 (x_mem (fun M17 hM17 => ?_))
  have h := h M17 hM17
  refine x_aload_n dX9_copyFrom_178 rfl 179 rfl ?_
  refine x_aload_n dX9_copyFrom_179 rfl 180 rfl ?_
  refine gf9_13 dX9_copyFrom_180 183 rfl hk_l1 kw1_78 ?_
  refine pf9_13 dX9_copyFrom_183 186 rfl hk_l0 kw1_78 (x_mem (fun M18 hM18 => ?_))
  have h := h M18 hM18
  refine x_aload_n dX9_copyFrom_186 rfl 187 rfl ?_
  refine x_aload_n dX9_copyFrom_187 rfl 188 rfl ?_
  refine gf9_14 dX9_copyFrom_188 191 rfl hk_l1 kw1_82 ?_
  refine pf9_14 dX9_copyFrom_191 194 rfl hk_l0 kw1_82 (x_mem (fun M19 hM19 => ?_))
  have h := h M19 hM19
  refine x_aload_n dX9_copyFrom_194 rfl 195 rfl ?_
  refine x_aload_n dX9_copyFrom_195 rfl 196 rfl ?_
  refine gf9_15 dX9_copyFrom_196 199 rfl hk_l1 kw1_85 ?_
  refine pf9_15 dX9_copyFrom_199 202 rfl hk_l0 kw1_85 (x_mem (fun M20 hM20 => ?_))
  have h := h M20 hM20
  refine x_aload_n dX9_copyFrom_202 rfl 203 rfl ?_
  refine x_aload_n dX9_copyFrom_203 rfl 204 rfl ?_
  refine gf9_16 dX9_copyFrom_204 207 rfl hk_l1 kw1_90 ?_
  refine pf9_16 dX9_copyFrom_207 210 rfl hk_l0 kw1_90 (x_mem (fun M21 hM21 => ?_))
  have h := h M21 hM21
  refine x_aload_n dX9_copyFrom_210 rfl 211 rfl ?_
  refine x_aload_n dX9_copyFrom_211 rfl 212 rfl ?_
  refine gf9_17 dX9_copyFrom_212 215 rfl hk_l1 kw1_94 ?_
  refine pf9_17 dX9_copyFrom_215 218 rfl hk_l0 kw1_94 (x_mem (fun M22 hM22 => ?_))
  have h := h M22 hM22
  refine x_aload_n dX9_copyFrom_218 rfl 219 rfl ?_
  refine x_aload_n dX9_copyFrom_219 rfl 220 rfl ?_
  refine gf9_18 dX9_copyFrom_220 223 rfl hk_l1 kw1_95 ?_
  refine pf9_18 dX9_copyFrom_223 226 rfl hk_l0 kw1_95 (x_mem (fun M23 hM23 => ?_))
  have h := h M23 hM23
  exact x_vret dX9_copyFrom_226 h
theorem cX9_copyFrom_ {Q : Mem → Prop} {l0 : Nat} {l1 : Nat} {M : Mem} (hk_l0 : SHk l0 = 9) (hk_l1 : SHk l1 = 9) (h : FX9_copyFrom Q l0 l1 M) : xM yX9_copyFrom cX9_copyFrom 2 none 2 [.ref l0, .ref l1] M (xQv Q) := xM_of (by decide +kernel) (Nat.le_of_ble_eq_true rfl) (eX9_copyFrom hk_l0 hk_l1 h)
theorem kX9_copyFrom {own : String} {cc : ByteArray} {nL : Nat} {rt : Option FieldType} {d pc ix : Nat} {L : List (Nat × Value)} {st : List Value} {M : Mem} {Rt : xGt → Array Value → State → Outcome → State → Prop} {Q : Mem → Prop} {l0 : Nat} {l1 : Nat} (hd : decode cc pc = .ok (.invokevirtual ix, 3)) (q : Nat) (hq : pc + 3 = q) (hk_l0 : SHk l0 = 9) (hk_l1 : SHk l1 = 9) (w1 : Cond.methodLink own ix yX9_copyFrom ∈ xTs) (hr : 2 < d) (hst : (st.map fun v => v.category).sum ≤ 8) (h : FX9_copyFrom Q l0 l1 M) (k : ∀ (N : Mem), Q N → xX own cc nL rt d q L st N Rt) : xX own cc nL rt d pc L (.ref l1 :: .ref l0 :: st) M Rt :=
  x_callV_v (n := 1) (As := [.ref l1]) hd q hq hk_l0 (by decide) rfl rfl w1 kw3_26 kw3_27 kw1_3 kw3_28 (by decide +kernel) rfl hr (by decide) hst _ rfl (cX9_copyFrom_ hk_l0 hk_l1 h) k
def FX0_copyFrom (Q : Mem → Prop) (l0 : Nat) (l1 : Nat) (M : Mem) : Prop :=
  FX9_copyFrom (fun (M1 : Mem) => FX2_copyFrom (fun (M2 : Mem) => FX6_copyFrom (fun (M3 : Mem) => FX4_copyFrom (fun (M4 : Mem) => FX7_copyFrom (fun (M5 : Mem) => FX10_copyFrom (fun (M6 : Mem) => Q M6) (l0 + 29) (l1 + 29) M5) (l0 + 26) (l1 + 26) M4) (l0 + 21) (l1 + 21) M3) (l0 + 18) (l1 + 18) M2) (l0 + 11) (l1 + 11) M1) (l0 + 1) (l1 + 1) M
theorem eX0_copyFrom {Q : Mem → Prop} {l0 : Nat} {l1 : Nat} {M : Mem} (hk_l0 : SHk l0 = 0) (hk_l1 : SHk l1 = 0) (h : FX0_copyFrom Q l0 l1 M) : xX RX0 cX0_copyFrom 2 none 3 0 [(0, .ref l0), (1, .ref l1)] [] M (xQv Q) := by
  unfold FX0_copyFrom at h
  refine x_aload_n dX0_copyFrom_0 rfl 1 rfl ?_
  refine gf0_0 dX0_copyFrom_1 4 rfl hk_l0 kw2_9 ?_
  refine x_aload_n dX0_copyFrom_4 rfl 5 rfl ?_
  refine gf0_0 dX0_copyFrom_5 8 rfl hk_l1 kw2_9 ?_
  refine kX9_copyFrom dX0_copyFrom_8 11 rfl (ly0_0 hk_l0).1 (ly0_0 hk_l1).1 kw5_139 (Nat.le_of_ble_eq_true rfl) (Nat.le_of_ble_eq_true rfl) h (fun M1 h => ?_)
  refine x_aload_n dX0_copyFrom_11 rfl 12 rfl ?_
  refine gf0_1 dX0_copyFrom_12 15 rfl hk_l0 kw2_11 ?_
  refine x_aload_n dX0_copyFrom_15 rfl 16 rfl ?_
  refine gf0_1 dX0_copyFrom_16 19 rfl hk_l1 kw2_11 ?_
  refine kX2_copyFrom dX0_copyFrom_19 22 rfl (ly0_1 hk_l0).1 (ly0_1 hk_l1).1 kw4_132 (Nat.le_of_ble_eq_true rfl) (Nat.le_of_ble_eq_true rfl) h (fun M2 h => ?_)
  refine x_aload_n dX0_copyFrom_22 rfl 23 rfl ?_
  refine gf0_2 dX0_copyFrom_23 26 rfl hk_l0 kw2_13 ?_
  refine x_aload_n dX0_copyFrom_26 rfl 27 rfl ?_
  refine gf0_2 dX0_copyFrom_27 30 rfl hk_l1 kw2_13 ?_
  refine kX6_copyFrom dX0_copyFrom_30 33 rfl (ly0_2 hk_l0).1 (ly0_2 hk_l1).1 kw4_137 (Nat.le_of_ble_eq_true rfl) (Nat.le_of_ble_eq_true rfl) h (fun M3 h => ?_)
  refine x_aload_n dX0_copyFrom_33 rfl 34 rfl ?_
  refine gf0_3 dX0_copyFrom_34 37 rfl hk_l0 kw2_15 ?_
  refine x_aload_n dX0_copyFrom_37 rfl 38 rfl ?_
  refine gf0_3 dX0_copyFrom_38 41 rfl hk_l1 kw2_15 ?_
  refine kX4_copyFrom dX0_copyFrom_41 44 rfl (ly0_3 hk_l0).1 (ly0_3 hk_l1).1 kw4_142 (Nat.le_of_ble_eq_true rfl) (Nat.le_of_ble_eq_true rfl) h (fun M4 h => ?_)
  refine x_aload_n dX0_copyFrom_44 rfl 45 rfl ?_
  refine gf0_4 dX0_copyFrom_45 48 rfl hk_l0 kw2_17 ?_
  refine x_aload_n dX0_copyFrom_48 rfl 49 rfl ?_
  refine gf0_4 dX0_copyFrom_49 52 rfl hk_l1 kw2_17 ?_
  refine kX7_copyFrom dX0_copyFrom_52 55 rfl (ly0_4 hk_l0).1 (ly0_4 hk_l1).1 kw4_147 (Nat.le_of_ble_eq_true rfl) (Nat.le_of_ble_eq_true rfl) h (fun M5 h => ?_)
  refine x_aload_n dX0_copyFrom_55 rfl 56 rfl ?_
  refine gf0_5 dX0_copyFrom_56 59 rfl hk_l0 kw2_19 ?_
  refine x_aload_n dX0_copyFrom_59 rfl 60 rfl ?_
  refine gf0_5 dX0_copyFrom_60 63 rfl hk_l1 kw2_19 ?_
  refine kX10_copyFrom dX0_copyFrom_63 66 rfl (ly0_5 hk_l0).1 (ly0_5 hk_l1).1 kw5_140 (Nat.le_of_ble_eq_true rfl) (Nat.le_of_ble_eq_true rfl) h (fun M6 h => ?_)
  exact x_vret dX0_copyFrom_66 h
theorem cX0_copyFrom_ {Q : Mem → Prop} {l0 : Nat} {l1 : Nat} {M : Mem} (hk_l0 : SHk l0 = 0) (hk_l1 : SHk l1 = 0) (h : FX0_copyFrom Q l0 l1 M) : xM yX0_copyFrom cX0_copyFrom 2 none 3 [.ref l0, .ref l1] M (xQv Q) := xM_of (by decide +kernel) (Nat.le_of_ble_eq_true rfl) (eX0_copyFrom hk_l0 hk_l1 h)
theorem kX0_copyFrom {own : String} {cc : ByteArray} {nL : Nat} {rt : Option FieldType} {d pc ix : Nat} {L : List (Nat × Value)} {st : List Value} {M : Mem} {Rt : xGt → Array Value → State → Outcome → State → Prop} {Q : Mem → Prop} {l0 : Nat} {l1 : Nat} (hd : decode cc pc = .ok (.invokevirtual ix, 3)) (q : Nat) (hq : pc + 3 = q) (hk_l0 : SHk l0 = 0) (hk_l1 : SHk l1 = 0) (w1 : Cond.methodLink own ix yX0_copyFrom ∈ xTs) (hr : 3 < d) (hst : (st.map fun v => v.category).sum ≤ 8) (h : FX0_copyFrom Q l0 l1 M) (k : ∀ (N : Mem), Q N → xX own cc nL rt d q L st N Rt) : xX own cc nL rt d pc L (.ref l1 :: .ref l0 :: st) M Rt :=
  x_callV_v (n := 1) (As := [.ref l1]) hd q hq hk_l0 (by decide) rfl rfl w1 kw5_136 kw5_137 kw1_2 kw5_138 (by decide +kernel) rfl hr (by decide) hst _ rfl (cX0_copyFrom_ hk_l0 hk_l1 h) k
def FX0_takeText (Q : Mem → Prop) (l0 : Nat) (l1 : Int32) (l2 : Nat) (M : Mem) : Prop :=
  ((l1 = 0 → FX2_copyFrom (fun (M1 : Mem) => Q M1) (l0 + 11) (l2 + 1) M) ∧ (l1 = 1 → FX6_copyFrom (fun (M2 : Mem) => Q M2) (l0 + 18) (l2 + 8) M) ∧ (l1 = 2 → FX4_copyFrom (fun (M3 : Mem) => Q M3) (l0 + 21) (l2 + 11) M) ∧ (¬ l1 = 0 → ¬ l1 = 1 → ¬ l1 = 2 → FX7_copyFrom (fun (M4 : Mem) => Q M4) (l0 + 26) (l2 + 16) M))
theorem eX0_takeText {Q : Mem → Prop} {l0 : Nat} {l1 : Int32} {l2 : Nat} {M : Mem} (hk_l0 : SHk l0 = 0) (hk_l2 : SHk l2 = 5) (h : FX0_takeText Q l0 l1 l2 M) : xX RX0 cX0_takeText 3 none 2 0 [(0, .ref l0), (1, .int l1), (2, .ref l2)] [] M (xQv Q) := by
  unfold FX0_takeText at h
  refine x_iload_n dX0_takeText_0 rfl 1 rfl ?_
  by_cases hc0 : l1 = 0
  · refine x_tab_at dX0_takeText_1 hc0 (by decide) (by decide) rfl (tg := 28) rfl ?_
    have h := h.1 hc0
    refine x_aload_n dX0_takeText_28 rfl 29 rfl ?_
    refine gf0_1 dX0_takeText_29 32 rfl hk_l0 kw2_11 ?_
    refine x_aload_n dX0_takeText_32 rfl 33 rfl ?_
    refine gf5_0 dX0_takeText_33 36 rfl hk_l2 kw2_91 ?_
    refine kX2_copyFrom dX0_takeText_36 39 rfl (ly0_1 hk_l0).1 (ly5_0 hk_l2).1 kw4_132 (Nat.le_of_ble_eq_true rfl) (Nat.le_of_ble_eq_true rfl) h (fun M1 h => ?_)
    refine x_goto dX0_takeText_39 81 rfl ?_
    exact x_vret dX0_takeText_81 h
  by_cases hc1 : l1 = 1
  · refine x_tab_at dX0_takeText_1 hc1 (by decide) (by decide) rfl (tg := 42) rfl ?_
    have h := h.2.1 hc1
    refine x_aload_n dX0_takeText_42 rfl 43 rfl ?_
    refine gf0_2 dX0_takeText_43 46 rfl hk_l0 kw2_13 ?_
    refine x_aload_n dX0_takeText_46 rfl 47 rfl ?_
    refine gf5_1 dX0_takeText_47 50 rfl hk_l2 kw2_93 ?_
    refine kX6_copyFrom dX0_takeText_50 53 rfl (ly0_2 hk_l0).1 (ly5_1 hk_l2).1 kw4_137 (Nat.le_of_ble_eq_true rfl) (Nat.le_of_ble_eq_true rfl) h (fun M2 h => ?_)
    refine x_goto dX0_takeText_53 81 rfl ?_
    exact x_vret dX0_takeText_81 h
  by_cases hc2 : l1 = 2
  · refine x_tab_at dX0_takeText_1 hc2 (by decide) (by decide) rfl (tg := 56) rfl ?_
    have h := h.2.2.1 hc2
    refine x_aload_n dX0_takeText_56 rfl 57 rfl ?_
    refine gf0_3 dX0_takeText_57 60 rfl hk_l0 kw2_15 ?_
    refine x_aload_n dX0_takeText_60 rfl 61 rfl ?_
    refine gf5_2 dX0_takeText_61 64 rfl hk_l2 kw2_95 ?_
    refine kX4_copyFrom dX0_takeText_64 67 rfl (ly0_3 hk_l0).1 (ly5_2 hk_l2).1 kw4_142 (Nat.le_of_ble_eq_true rfl) (Nat.le_of_ble_eq_true rfl) h (fun M3 h => ?_)
    refine x_goto dX0_takeText_67 81 rfl ?_
    exact x_vret dX0_takeText_81 h
  have h := h.2.2.2 hc0 hc1 hc2
  refine x_tab_out dX0_takeText_1 (by have a0 := lv_neT hc0 (a := 0) (by decide); have a1 := lv_neT hc1 (a := 1) (by decide); have a2 := lv_neT hc2 (a := 2) (by decide); show (l1 : Int32).toInt < 0 ∨ 2 < (l1 : Int32).toInt; omega) (tg := 70) rfl ?_
  refine x_aload_n dX0_takeText_70 rfl 71 rfl ?_
  refine gf0_4 dX0_takeText_71 74 rfl hk_l0 kw2_17 ?_
  refine x_aload_n dX0_takeText_74 rfl 75 rfl ?_
  refine gf5_3 dX0_takeText_75 78 rfl hk_l2 kw2_97 ?_
  refine kX7_copyFrom dX0_takeText_78 81 rfl (ly0_4 hk_l0).1 (ly5_3 hk_l2).1 kw4_147 (Nat.le_of_ble_eq_true rfl) (Nat.le_of_ble_eq_true rfl) h (fun M4 h => ?_)
  exact x_vret dX0_takeText_81 h
theorem cX0_takeText_ {Q : Mem → Prop} {l0 : Nat} {l1 : Int32} {l2 : Nat} {M : Mem} (hk_l0 : SHk l0 = 0) (hk_l2 : SHk l2 = 5) (h : FX0_takeText Q l0 l1 l2 M) : xM yX0_takeText cX0_takeText 3 none 2 [.ref l0, .int l1, .ref l2] M (xQv Q) := xM_of (by decide +kernel) (Nat.le_of_ble_eq_true rfl) (eX0_takeText hk_l0 hk_l2 h)
theorem kX0_takeText {own : String} {cc : ByteArray} {nL : Nat} {rt : Option FieldType} {d pc ix : Nat} {L : List (Nat × Value)} {st : List Value} {M : Mem} {Rt : xGt → Array Value → State → Outcome → State → Prop} {Q : Mem → Prop} {l0 : Nat} {l1 : Int32} {l2 : Nat} (hd : decode cc pc = .ok (.invokevirtual ix, 3)) (q : Nat) (hq : pc + 3 = q) (hk_l0 : SHk l0 = 0) (hk_l2 : SHk l2 = 5) (w1 : Cond.methodLink own ix yX0_takeText ∈ xTs) (hr : 2 < d) (hst : (st.map fun v => v.category).sum ≤ 8) (h : FX0_takeText Q l0 l1 l2 M) (k : ∀ (N : Mem), Q N → xX own cc nL rt d q L st N Rt) : xX own cc nL rt d pc L (.ref l2 :: .int l1 :: .ref l0 :: st) M Rt :=
  x_callV_v (n := 2) (As := [.int l1, .ref l2]) hd q hq hk_l0 (by decide) rfl rfl w1 kw4_129 kw4_130 kw1_2 kw4_131 (by decide +kernel) rfl hr (by decide) hst _ rfl (cX0_takeText_ hk_l0 hk_l2 h) k
def FJ9_max_7cf53 (Q : Int32 → Prop) (l0 : Int32) (l1 : Int32) (M : Mem) : Prop :=
  ((l0 < l1 → Q l1) ∧ (¬ l0 < l1 → Q l0))
theorem eJ9_max_7cf53 {Q : Int32 → Prop} {l0 : Int32} {l1 : Int32} {M : Mem} (h : FJ9_max_7cf53 Q l0 l1 M) : xX RJ9 cJ9_max_7cf53 2 (some .int) 1 0 [(0, .int l0), (1, .int l1)] [] M (xQi (xP M Q)) := by
  unfold FJ9_max_7cf53 at h
  refine x_iload_n dJ9_max_7cf53_0 rfl 1 rfl ?_
  refine x_iload_n dJ9_max_7cf53_1 rfl 2 rfl ?_
  refine x_icmp_lt dJ9_max_7cf53_2 9 5 rfl rfl (fun hc => ?_) (fun hc => ?_)
  · have h := h.1 hc
    refine x_iload_n dJ9_max_7cf53_9 rfl 10 rfl ?_
    exact x_iret dJ9_max_7cf53_10 ⟨rfl, h⟩
  · have h := h.2 hc
    refine x_iload_n dJ9_max_7cf53_5 rfl 6 rfl ?_
    refine x_goto dJ9_max_7cf53_6 10 rfl ?_
    exact x_iret dJ9_max_7cf53_10 ⟨rfl, h⟩
theorem cJ9_max_7cf53_ {Q : Int32 → Prop} {l0 : Int32} {l1 : Int32} {M : Mem} (h : FJ9_max_7cf53 Q l0 l1 M) : xM yJ9_max_7cf53 cJ9_max_7cf53 2 (some .int) 1 [.int l0, .int l1] M (xQi (xP M Q)) := xM_ofF (by decide +kernel) (Nat.le_of_ble_eq_true rfl) (eJ9_max_7cf53 h)
theorem kJ9_max_7cf53 {own : String} {cc : ByteArray} {nL : Nat} {rt : Option FieldType} {d pc ix : Nat} {L : List (Nat × Value)} {st : List Value} {M : Mem} {Rt : xGt → Array Value → State → Outcome → State → Prop} {Q : Int32 → Prop} {l0 : Int32} {l1 : Int32} (hd : decode cc pc = .ok (.invokestatic ix, 3)) (q : Nat) (hq : pc + 3 = q) (w1 : Cond.methodLink own ix yJ9_max_7cf53 ∈ xTs) (hr : 1 < d) (hst : (st.map fun v => v.category).sum ≤ 8) (h : FJ9_max_7cf53 Q l0 l1 M) (k : ∀ (r : Int32), Q r → xX own cc nL rt d q L (.int r :: st) M Rt) : xX own cc nL rt d pc L (.int l1 :: .int l0 :: st) M Rt :=
  x_callS_i (n := 2) (As := [.int l0, .int l1]) hd q hq w1 kw3_97 kw1_15 kw3_98 (by decide +kernel) rfl hr (by decide) hst _ rfl (cJ9_max_7cf53_ h) (fun r N hN => by obtain ⟨rfl, hN⟩ := hN; exact k r hN)
def FX11_held (Q : Int32 → Prop) (l0 : Int32) (l1 : Int32) (l2 : Int32) (M : Mem) : Prop :=
  FJ9_min_7cf53 (fun (r1 : Int32) => FJ9_max_7cf53 (fun (r2 : Int32) => Q r2) l1 r1 M) l2 l0 M
theorem eX11_held {Q : Int32 → Prop} {l0 : Int32} {l1 : Int32} {l2 : Int32} {M : Mem} (h : FX11_held Q l0 l1 l2 M) : xX RX11 cX11_held 3 (some .int) 2 0 [(0, .int l0), (1, .int l1), (2, .int l2)] [] M (xQi (xP M Q)) := by
  unfold FX11_held at h
  refine x_iload_n dX11_held_0 rfl 1 rfl ?_
  refine x_iload_n dX11_held_1 rfl 2 rfl ?_
  refine x_iload_n dX11_held_2 rfl 3 rfl ?_
  refine kJ9_min_7cf53 dX11_held_3 6 rfl kw3_35 (Nat.le_of_ble_eq_true rfl) (Nat.le_of_ble_eq_true rfl) h (fun r1 h => ?_)
  refine kJ9_max_7cf53 dX11_held_6 9 rfl kw3_116 (Nat.le_of_ble_eq_true rfl) (Nat.le_of_ble_eq_true rfl) h (fun r2 h => ?_)
  exact x_iret dX11_held_9 ⟨rfl, h⟩
theorem cX11_held_ {Q : Int32 → Prop} {l0 : Int32} {l1 : Int32} {l2 : Int32} {M : Mem} (h : FX11_held Q l0 l1 l2 M) : xM yX11_held cX11_held 3 (some .int) 2 [.int l0, .int l1, .int l2] M (xQi (xP M Q)) := xM_of (by decide +kernel) (Nat.le_of_ble_eq_true rfl) (eX11_held h)
theorem kX11_held {own : String} {cc : ByteArray} {nL : Nat} {rt : Option FieldType} {d pc ix : Nat} {L : List (Nat × Value)} {st : List Value} {M : Mem} {Rt : xGt → Array Value → State → Outcome → State → Prop} {Q : Int32 → Prop} {l0 : Int32} {l1 : Int32} {l2 : Int32} (hd : decode cc pc = .ok (.invokestatic ix, 3)) (q : Nat) (hq : pc + 3 = q) (w1 : Cond.methodLink own ix yX11_held ∈ xTs) (hr : 2 < d) (hst : (st.map fun v => v.category).sum ≤ 8) (h : FX11_held Q l0 l1 l2 M) (k : ∀ (r : Int32), Q r → xX own cc nL rt d q L (.int r :: st) M Rt) : xX own cc nL rt d pc L (.int l2 :: .int l1 :: .int l0 :: st) M Rt :=
  x_callS_i (n := 3) (As := [.int l0, .int l1, .int l2]) hd q hq w1 kw3_114 kw1_1 kw3_115 (by decide +kernel) rfl hr (by decide) hst _ rfl (cX11_held_ h) (fun r N hN => by obtain ⟨rfl, hN⟩ := hN; exact k r hN)
theorem kX11_heldn {own : String} {cc : ByteArray} {nL : Nat} {rt : Option FieldType} {d pc ix : Nat} {L : List (Nat × Value)} {st : List Value} {M : Mem} {Rt : xGt → Array Value → State → Outcome → State → Prop} {Q : Int32 → Prop} {l0 : Int32} {l1 : Int32} {l2 : Int32} (hd : decode cc pc = .ok (.invokestatic ix, 3)) (q : Nat) (hq : pc + 3 = q) (w1 : Cond.methodLinkNest own ix yX11_held "PillarSaints" ∈ tables_1) (hr : 2 < d) (hst : (st.map fun v => v.category).sum ≤ 8) (h : FX11_held Q l0 l1 l2 M) (k : ∀ (r : Int32), Q r → xX own cc nL rt d q L (.int r :: st) M Rt) : xX own cc nL rt d pc L (.int l2 :: .int l1 :: .int l0 :: st) M Rt :=
  x_callN_i (n := 3) (As := [.int l0, .int l1, .int l2]) hd q hq w1 kw3_114 kw1_1 kw3_115 (by decide +kernel) rfl hr (by decide) hst _ rfl (cX11_held_ h) (fun r N hN => by obtain ⟨rfl, hN⟩ := hN; exact k r hN)
def FX2_bounded (Q : Int32 → Prop) (l0 : Int32) (l1 : Int32) (M : Mem) : Prop :=
  ((l0 = 0 → FX11_held (fun (r1 : Int32) => Q r1) l1 0 99 M) ∧ (l0 = 1 → FX11_held (fun (r2 : Int32) => Q r2) l1 0 1000 M) ∧ (¬ l0 = 0 → ¬ l0 = 1 → FX11_held (fun (r3 : Int32) => Q r3) l1 (-99) 99 M))
theorem eX2_bounded {Q : Int32 → Prop} {l0 : Int32} {l1 : Int32} {M : Mem} (h : FX2_bounded Q l0 l1 M) : xX RX2 cX2_bounded 2 (some .int) 3 0 [(0, .int l0), (1, .int l1)] [] M (xQi (xP M Q)) := by
  unfold FX2_bounded at h
  refine x_iload_n dX2_bounded_0 rfl 1 rfl ?_
  by_cases hc0 : l0 = 0
  · refine x_lookup (off := 27) dX2_bounded_1 (by decide) (by rw [hc0]; first | done | rfl) (tg := 28) rfl ?_
    have h := h.1 hc0
    refine x_iload_n dX2_bounded_28 rfl 29 rfl ?_
    refine x_iconst dX2_bounded_29 kc_0 30 rfl ?_
    refine x_bipush dX2_bounded_30 kb_99 32 rfl ?_
    refine kX11_heldn dX2_bounded_32 35 rfl kn3_113 (Nat.le_of_ble_eq_true rfl) (Nat.le_of_ble_eq_true rfl) h (fun r1 h => ?_)
    exact x_iret dX2_bounded_35 ⟨rfl, h⟩
  by_cases hc1 : l0 = 1
  · refine x_lookup (off := 35) dX2_bounded_1 (by decide) (by rw [hc1]; first | done | rfl) (tg := 36) rfl ?_
    have h := h.2.1 hc1
    refine x_iload_n dX2_bounded_36 rfl 37 rfl ?_
    refine x_iconst dX2_bounded_37 kc_0 38 rfl ?_
    refine x_sipush dX2_bounded_38 kh_1000 41 rfl ?_
    refine kX11_heldn dX2_bounded_41 44 rfl kn3_113 (Nat.le_of_ble_eq_true rfl) (Nat.le_of_ble_eq_true rfl) h (fun r2 h => ?_)
    exact x_iret dX2_bounded_44 ⟨rfl, h⟩
  have h := h.2.2 hc0 hc1
  refine x_lookup (off := 44) dX2_bounded_1 (by decide) (by rw [lv_osw (k := 0) hc0 (by decide), lv_osw (k := 1) hc1 (by decide)]; first | done | rfl) (tg := 45) rfl ?_
  refine x_iload_n dX2_bounded_45 rfl 46 rfl ?_
  refine x_bipush dX2_bounded_46 kb_m99 48 rfl ?_
  refine x_bipush dX2_bounded_48 kb_99 50 rfl ?_
  refine kX11_heldn dX2_bounded_50 53 rfl kn3_113 (Nat.le_of_ble_eq_true rfl) (Nat.le_of_ble_eq_true rfl) h (fun r3 h => ?_)
  exact x_iret dX2_bounded_53 ⟨rfl, h⟩
theorem cX2_bounded_ {Q : Int32 → Prop} {l0 : Int32} {l1 : Int32} {M : Mem} (h : FX2_bounded Q l0 l1 M) : xM yX2_bounded cX2_bounded 2 (some .int) 3 [.int l0, .int l1] M (xQi (xP M Q)) := xM_of (by decide +kernel) (Nat.le_of_ble_eq_true rfl) (eX2_bounded h)
theorem kX2_bounded {own : String} {cc : ByteArray} {nL : Nat} {rt : Option FieldType} {d pc ix : Nat} {L : List (Nat × Value)} {st : List Value} {M : Mem} {Rt : xGt → Array Value → State → Outcome → State → Prop} {Q : Int32 → Prop} {l0 : Int32} {l1 : Int32} (hd : decode cc pc = .ok (.invokestatic ix, 3)) (q : Nat) (hq : pc + 3 = q) (w1 : Cond.methodLink own ix yX2_bounded ∈ xTs) (hr : 3 < d) (hst : (st.map fun v => v.category).sum ≤ 8) (h : FX2_bounded Q l0 l1 M) (k : ∀ (r : Int32), Q r → xX own cc nL rt d q L (.int r :: st) M Rt) : xX own cc nL rt d pc L (.int l1 :: .int l0 :: st) M Rt :=
  x_callS_i (n := 2) (As := [.int l0, .int l1]) hd q hq w1 kw3_111 kw1_5 kw3_112 (by decide +kernel) rfl hr (by decide) hst _ rfl (cX2_bounded_ h) (fun r N hN => by obtain ⟨rfl, hN⟩ := hN; exact k r hN)
def FX2_joined (Q : Int32 → Prop) (l0 : Int32) (l1 : Int32) (l2 : Int32) (M : Mem) : Prop :=
  ((l0 = (-8) → Q (l1 &&& l2)) ∧ (l0 = (-7) → ((l1 ≤ l2 → Q 0) ∧ (¬ l1 ≤ l2 → Q 1))) ∧ (l0 = (-6) → ((¬ l1 = l2 → Q 0) ∧ (l1 = l2 → Q 1))) ∧ (l0 = (-5) → ((l2 ≤ l1 → Q 0) ∧ (¬ l2 ≤ l1 → Q 1))) ∧ (l0 = (-4) → ((¬ l2 = 0 → (¬ (l2 : Int32) = 0) ∧ Q (l1 / l2)) ∧ (l2 = 0 → Q 0))) ∧ (l0 = (-3) → Q (l1 * l2)) ∧ (l0 = (-2) → Q (l1 - l2)) ∧ (l0 = (-1) → Q (l1 + l2)) ∧ (¬ l0 = (-8) → ¬ l0 = (-7) → ¬ l0 = (-6) → ¬ l0 = (-5) → ¬ l0 = (-4) → ¬ l0 = (-3) → ¬ l0 = (-2) → ¬ l0 = (-1) → Q (l1 ||| l2)))
theorem eX2_joined {Q : Int32 → Prop} {l0 : Int32} {l1 : Int32} {l2 : Int32} {M : Mem} (h : FX2_joined Q l0 l1 l2 M) : xX RX2 cX2_joined 3 (some .int) 1 0 [(0, .int l0), (1, .int l1), (2, .int l2)] [] M (xQi (xP M Q)) := by
  unfold FX2_joined at h
  refine x_iload_n dX2_joined_0 rfl 1 rfl ?_
  by_cases hc0 : l0 = (-8)
  · refine x_tab_at dX2_joined_1 hc0 (by decide) (by decide) rfl (tg := 105) rfl ?_
    have h := h.1 hc0
    refine x_iload_n dX2_joined_105 rfl 106 rfl ?_
    refine x_iload_n dX2_joined_106 rfl 107 rfl ?_
    refine x_iand dX2_joined_107 108 rfl ?_
    exact x_iret dX2_joined_108 ⟨rfl, h⟩
  by_cases hc1 : l0 = (-7)
  · refine x_tab_at dX2_joined_1 hc1 (by decide) (by decide) rfl (tg := 94) rfl ?_
    have h := h.2.1 hc1
    refine x_iload_n dX2_joined_94 rfl 95 rfl ?_
    refine x_iload_n dX2_joined_95 rfl 96 rfl ?_
    refine x_icmp_le dX2_joined_96 103 99 rfl rfl (fun hc => ?_) (fun hc => ?_)
    · have h := h.1 hc
      refine x_iconst dX2_joined_103 kc_0 104 rfl ?_
      exact x_iret dX2_joined_104 ⟨rfl, h⟩
    · have h := h.2 hc
      refine x_iconst dX2_joined_99 kc_1 100 rfl ?_
      refine x_goto dX2_joined_100 104 rfl ?_
      exact x_iret dX2_joined_104 ⟨rfl, h⟩
  by_cases hc2 : l0 = (-6)
  · refine x_tab_at dX2_joined_1 hc2 (by decide) (by decide) rfl (tg := 83) rfl ?_
    have h := h.2.2.1 hc2
    refine x_iload_n dX2_joined_83 rfl 84 rfl ?_
    refine x_iload_n dX2_joined_84 rfl 85 rfl ?_
    refine x_icmp_ne dX2_joined_85 92 88 rfl rfl (fun hc => ?_) (fun hc => ?_)
    · have h := h.1 hc
      refine x_iconst dX2_joined_92 kc_0 93 rfl ?_
      exact x_iret dX2_joined_93 ⟨rfl, h⟩
    · have h := h.2 hc
      refine x_iconst dX2_joined_88 kc_1 89 rfl ?_
      refine x_goto dX2_joined_89 93 rfl ?_
      exact x_iret dX2_joined_93 ⟨rfl, h⟩
  by_cases hc3 : l0 = (-5)
  · refine x_tab_at dX2_joined_1 hc3 (by decide) (by decide) rfl (tg := 72) rfl ?_
    have h := h.2.2.2.1 hc3
    refine x_iload_n dX2_joined_72 rfl 73 rfl ?_
    refine x_iload_n dX2_joined_73 rfl 74 rfl ?_
    refine x_icmp_ge dX2_joined_74 81 77 rfl rfl (fun hc => ?_) (fun hc => ?_)
    · have h := h.1 hc
      refine x_iconst dX2_joined_81 kc_0 82 rfl ?_
      exact x_iret dX2_joined_82 ⟨rfl, h⟩
    · have h := h.2 hc
      refine x_iconst dX2_joined_77 kc_1 78 rfl ?_
      refine x_goto dX2_joined_78 82 rfl ?_
      exact x_iret dX2_joined_82 ⟨rfl, h⟩
  by_cases hc4 : l0 = (-4)
  · refine x_tab_at dX2_joined_1 hc4 (by decide) (by decide) rfl (tg := 60) rfl ?_
    have h := h.2.2.2.2.1 hc4
    refine x_iload_n dX2_joined_60 rfl 61 rfl ?_
    refine x_if_ne dX2_joined_61 68 64 rfl rfl (fun hc => ?_) (fun hc => ?_)
    · have h := h.1 hc
      refine x_iload_n dX2_joined_68 rfl 69 rfl ?_
      refine x_iload_n dX2_joined_69 rfl 70 rfl ?_
      obtain ⟨hne, h⟩ := h
      refine x_idiv dX2_joined_70 hne 71 rfl ?_
      exact x_iret dX2_joined_71 ⟨rfl, h⟩
    · have h := h.2 hc
      refine x_iconst dX2_joined_64 kc_0 65 rfl ?_
      refine x_goto dX2_joined_65 71 rfl ?_
      exact x_iret dX2_joined_71 ⟨rfl, h⟩
  by_cases hc5 : l0 = (-3)
  · refine x_tab_at dX2_joined_1 hc5 (by decide) (by decide) rfl (tg := 56) rfl ?_
    have h := h.2.2.2.2.2.1 hc5
    refine x_iload_n dX2_joined_56 rfl 57 rfl ?_
    refine x_iload_n dX2_joined_57 rfl 58 rfl ?_
    refine x_imul dX2_joined_58 59 rfl ?_
    exact x_iret dX2_joined_59 ⟨rfl, h⟩
  by_cases hc6 : l0 = (-2)
  · refine x_tab_at dX2_joined_1 hc6 (by decide) (by decide) rfl (tg := 52) rfl ?_
    have h := h.2.2.2.2.2.2.1 hc6
    refine x_iload_n dX2_joined_52 rfl 53 rfl ?_
    refine x_iload_n dX2_joined_53 rfl 54 rfl ?_
    refine x_isub dX2_joined_54 55 rfl ?_
    exact x_iret dX2_joined_55 ⟨rfl, h⟩
  by_cases hc7 : l0 = (-1)
  · refine x_tab_at dX2_joined_1 hc7 (by decide) (by decide) rfl (tg := 48) rfl ?_
    have h := h.2.2.2.2.2.2.2.1 hc7
    refine x_iload_n dX2_joined_48 rfl 49 rfl ?_
    refine x_iload_n dX2_joined_49 rfl 50 rfl ?_
    refine x_iadd dX2_joined_50 51 rfl ?_
    exact x_iret dX2_joined_51 ⟨rfl, h⟩
  have h := h.2.2.2.2.2.2.2.2 hc0 hc1 hc2 hc3 hc4 hc5 hc6 hc7
  refine x_tab_out dX2_joined_1 (by have a0 := lv_neT hc0 (a := (-8)) (by decide); have a1 := lv_neT hc1 (a := (-7)) (by decide); have a2 := lv_neT hc2 (a := (-6)) (by decide); have a3 := lv_neT hc3 (a := (-5)) (by decide); have a4 := lv_neT hc4 (a := (-4)) (by decide); have a5 := lv_neT hc5 (a := (-3)) (by decide); have a6 := lv_neT hc6 (a := (-2)) (by decide); have a7 := lv_neT hc7 (a := (-1)) (by decide); show (l0 : Int32).toInt < (-8) ∨ (-1) < (l0 : Int32).toInt; omega) (tg := 109) rfl ?_
  refine x_iload_n dX2_joined_109 rfl 110 rfl ?_
  refine x_iload_n dX2_joined_110 rfl 111 rfl ?_
  refine x_ior dX2_joined_111 112 rfl ?_
  exact x_iret dX2_joined_112 ⟨rfl, h⟩
theorem cX2_joined_ {Q : Int32 → Prop} {l0 : Int32} {l1 : Int32} {l2 : Int32} {M : Mem} (h : FX2_joined Q l0 l1 l2 M) : xM yX2_joined cX2_joined 3 (some .int) 1 [.int l0, .int l1, .int l2] M (xQi (xP M Q)) := xM_of (by decide +kernel) (Nat.le_of_ble_eq_true rfl) (eX2_joined h)
theorem kX2_joined {own : String} {cc : ByteArray} {nL : Nat} {rt : Option FieldType} {d pc ix : Nat} {L : List (Nat × Value)} {st : List Value} {M : Mem} {Rt : xGt → Array Value → State → Outcome → State → Prop} {Q : Int32 → Prop} {l0 : Int32} {l1 : Int32} {l2 : Int32} (hd : decode cc pc = .ok (.invokestatic ix, 3)) (q : Nat) (hq : pc + 3 = q) (w1 : Cond.methodLink own ix yX2_joined ∈ xTs) (hr : 1 < d) (hst : (st.map fun v => v.category).sum ≤ 8) (h : FX2_joined Q l0 l1 l2 M) (k : ∀ (r : Int32), Q r → xX own cc nL rt d q L (.int r :: st) M Rt) : xX own cc nL rt d pc L (.int l2 :: .int l1 :: .int l0 :: st) M Rt :=
  x_callS_i (n := 3) (As := [.int l0, .int l1, .int l2]) hd q hq w1 kw3_108 kw1_5 kw3_109 (by decide +kernel) rfl hr (by decide) hst _ rfl (cX2_joined_ h) (fun r N hN => by obtain ⟨rfl, hN⟩ := hN; exact k r hN)
def NX9_doctrineAbove_46 (Q : Int32 → Prop) (B4 : Int32 → Int32 → Prop) (l0 : Nat) (l1 : Int32) (l2 : Int32) (l3 : Int32) (l4 : Int32) (M : Mem) : Prop :=
  ((¬ l4 = l1 → B4 l2 (l3 + 1)) ∧ (l4 = l1 → B4 1 (l3 + 1)))
theorem nX9_doctrineAbove_46 {Q : Int32 → Prop} {B4 : Int32 → Int32 → Prop} {l0 : Nat} {l1 : Int32} {l2 : Int32} {l3 : Int32} {l4 : Int32} {M : Mem} (hB4 : ∀ (l2 : Int32) (l3 : Int32), B4 l2 l3 → xX RX9 cX9_doctrineAbove 5 (some .int) 1 4 [(0, .ref l0), (1, .int l1), (2, .int l2), (3, .int l3)] [] M (xQi (xP M Q))) (hk_l0 : SHk l0 = 9) (h : NX9_doctrineAbove_46 Q B4 l0 l1 l2 l3 l4 M) : xX RX9 cX9_doctrineAbove 5 (some .int) 1 46 [(0, .ref l0), (1, .int l1), (2, .int l2), (3, .int l3), (4, .int l4)] [] M (xQi (xP M Q)) := by
  unfold NX9_doctrineAbove_46 at h
  refine x_iload dX9_doctrineAbove_46 rfl 48 rfl ?_
  refine x_iload_n dX9_doctrineAbove_48 rfl 49 rfl ?_
  refine x_icmp_ne dX9_doctrineAbove_49 54 52 rfl rfl (fun hc => ?_) (fun hc => ?_)
  · have h := h.1 hc
    refine x_iinc dX9_doctrineAbove_54 rfl (congrArg (l3 + ·) kc_1) (Nat.le_of_ble_eq_true rfl) [(0, .ref l0), (1, .int l1), (2, .int l2), (3, .int (l3 + 1)), (4, .int l4)] rfl 57 rfl ?_
    refine x_goto dX9_doctrineAbove_57 4 rfl ?_
    refine x_weak [(0, .ref l0), (1, .int l1), (2, .int l2), (3, .int (l3 + 1))] [0, 1, 2, 3] rfl ?_
    exact hB4 _ _ h
  · have h := h.2 hc
    refine x_iconst dX9_doctrineAbove_52 kc_1 53 rfl ?_
    refine x_istore_n dX9_doctrineAbove_53 (Nat.le_of_ble_eq_true rfl) [(0, .ref l0), (1, .int l1), (2, .int 1), (3, .int l3), (4, .int l4)] rfl 54 rfl ?_
    refine x_iinc dX9_doctrineAbove_54 rfl (congrArg (l3 + ·) kc_1) (Nat.le_of_ble_eq_true rfl) [(0, .ref l0), (1, .int l1), (2, .int 1), (3, .int (l3 + 1)), (4, .int l4)] rfl 57 rfl ?_
    refine x_goto dX9_doctrineAbove_57 4 rfl ?_
    refine x_weak [(0, .ref l0), (1, .int l1), (2, .int 1), (3, .int (l3 + 1))] [0, 1, 2, 3] rfl ?_
    exact hB4 _ _ h
def lbX9_doctrineAbove_4 (Q : Int32 → Prop) (l0 : Nat) (l1 : Int32) (M : Mem) (B4 : Int32 → Int32 → Prop) (l2 : Int32) (l3 : Int32) : Prop :=
  (((M l0 10) ≤ l3 → ((l1 < 0 → Q 0) ∧ (¬ l1 < 0 → (((M l0 11) ≤ l1 → Q 0) ∧ (¬ (M l0 11) ≤ l1 → vp_in l1 14 ∧ Q (M (l0 + 6) (ix l1))))))) ∧ (¬ (M l0 10) ≤ l3 → vp_in l3 10 ∧ ((l2 = 0 → NX9_doctrineAbove_46 Q B4 l0 l1 l2 l3 (M (l0 + 2) (ix l3)) M) ∧ (¬ l2 = 0 → (((M (l0 + 2) (ix l3)) < 0 → NX9_doctrineAbove_46 Q B4 l0 l1 l2 l3 (M (l0 + 2) (ix l3)) M) ∧ (¬ (M (l0 + 2) (ix l3)) < 0 → (((M l0 11) ≤ (M (l0 + 2) (ix l3)) → NX9_doctrineAbove_46 Q B4 l0 l1 l2 l3 (M (l0 + 2) (ix l3)) M) ∧ (¬ (M l0 11) ≤ (M (l0 + 2) (ix l3)) → vp_in (M (l0 + 2) (ix l3)) 14 ∧ Q (M (l0 + 6) (ix (M (l0 + 2) (ix l3))))))))))))
def NX9_doctrineAbove_4 (Q : Int32 → Prop) (l0 : Nat) (l1 : Int32) (l2 : Int32) (l3 : Int32) (M : Mem) : Prop := xlp (fun (B : Int32 × Int32 → Prop) a => lbX9_doctrineAbove_4 Q l0 l1 M (fun l2 l3 => B (l2, l3)) a.1 a.2) (l2, l3)
theorem nX9_doctrineAbove_4 {Q : Int32 → Prop} {l0 : Nat} {l1 : Int32} {l2 : Int32} {l3 : Int32} {M : Mem} (hk_l0 : SHk l0 = 9) (h : NX9_doctrineAbove_4 Q l0 l1 l2 l3 M) : xX RX9 cX9_doctrineAbove 5 (some .int) 1 4 [(0, .ref l0), (1, .int l1), (2, .int l2), (3, .int l3)] [] M (xQi (xP M Q)) := by
  obtain ⟨n, h⟩ := h
  have hB4 : ∀ (n : Nat) (l2 : Int32) (l3 : Int32), xlpn (fun (B : Int32 × Int32 → Prop) a => lbX9_doctrineAbove_4 Q l0 l1 M (fun l2 l3 => B (l2, l3)) a.1 a.2) n (l2, l3) → xX RX9 cX9_doctrineAbove 5 (some .int) 1 4 [(0, .ref l0), (1, .int l1), (2, .int l2), (3, .int l3)] [] M (xQi (xP M Q)) := by
    intro n
    induction n with
    | zero => intro l2 l3 h; exact False.elim h
    | succ n ih =>
      intro l2 l3 h
      have hB4 := ih
      have h : lbX9_doctrineAbove_4 Q l0 l1 M (fun l2 l3 => xlpn (fun (B : Int32 × Int32 → Prop) a => lbX9_doctrineAbove_4 Q l0 l1 M (fun l2 l3 => B (l2, l3)) a.1 a.2) n (l2, l3)) l2 l3 := h
      unfold lbX9_doctrineAbove_4 at h
      refine x_iload_n dX9_doctrineAbove_4 rfl 5 rfl ?_
      refine x_aload_n dX9_doctrineAbove_5 rfl 6 rfl ?_
      refine gf9_10 dX9_doctrineAbove_6 9 rfl hk_l0 kw1_68 ?_
      refine x_icmp_ge dX9_doctrineAbove_9 60 12 rfl rfl (fun hc => ?_) (fun hc => ?_)
      · have h := h.1 hc
        refine x_iload_n dX9_doctrineAbove_60 rfl 61 rfl ?_
        refine x_if_lt dX9_doctrineAbove_61 81 64 rfl rfl (fun hc => ?_) (fun hc => ?_)
        · have h := h.1 hc
          refine x_iconst dX9_doctrineAbove_81 kc_0 82 rfl ?_
          exact x_iret dX9_doctrineAbove_82 ⟨rfl, h⟩
        · have h := h.2 hc
          refine x_iload_n dX9_doctrineAbove_64 rfl 65 rfl ?_
          refine x_aload_n dX9_doctrineAbove_65 rfl 66 rfl ?_
          refine gf9_11 dX9_doctrineAbove_66 69 rfl hk_l0 kw1_72 ?_
          refine x_icmp_ge dX9_doctrineAbove_69 81 72 rfl rfl (fun hc => ?_) (fun hc => ?_)
          · have h := h.1 hc
            refine x_iconst dX9_doctrineAbove_81 kc_0 82 rfl ?_
            exact x_iret dX9_doctrineAbove_82 ⟨rfl, h⟩
          · have h := h.2 hc
            refine x_aload_n dX9_doctrineAbove_72 rfl 73 rfl ?_
            refine gf9_6 dX9_doctrineAbove_73 76 rfl hk_l0 kw1_60 ?_
            refine x_iload_n dX9_doctrineAbove_76 rfl 77 rfl ?_
            obtain ⟨hin, h⟩ := h
            refine x_iaload dX9_doctrineAbove_77 (ly9_6 hk_l0) hin 78 rfl ?_
            refine x_goto dX9_doctrineAbove_78 82 rfl ?_
            exact x_iret dX9_doctrineAbove_82 ⟨rfl, h⟩
      · have h := h.2 hc
        refine x_aload_n dX9_doctrineAbove_12 rfl 13 rfl ?_
        refine gf9_2 dX9_doctrineAbove_13 16 rfl hk_l0 kw1_50 ?_
        refine x_iload_n dX9_doctrineAbove_16 rfl 17 rfl ?_
        obtain ⟨hin, h⟩ := h
        refine x_iaload dX9_doctrineAbove_17 (ly9_2 hk_l0) hin 18 rfl ?_
        refine x_istore dX9_doctrineAbove_18 (Nat.le_of_ble_eq_true rfl) [(0, .ref l0), (1, .int l1), (2, .int l2), (3, .int l3), (4, .int (M (l0 + 2) (ix l3)))] rfl 20 rfl ?_
        refine x_iload_n dX9_doctrineAbove_20 rfl 21 rfl ?_
        refine x_if_eq dX9_doctrineAbove_21 46 24 rfl rfl (fun hc => ?_) (fun hc => ?_)
        · have h := h.1 hc
          exact nX9_doctrineAbove_46 hB4 hk_l0 h
        · have h := h.2 hc
          refine x_iload dX9_doctrineAbove_24 rfl 26 rfl ?_
          refine x_if_lt dX9_doctrineAbove_26 46 29 rfl rfl (fun hc => ?_) (fun hc => ?_)
          · have h := h.1 hc
            exact nX9_doctrineAbove_46 hB4 hk_l0 h
          · have h := h.2 hc
            refine x_iload dX9_doctrineAbove_29 rfl 31 rfl ?_
            refine x_aload_n dX9_doctrineAbove_31 rfl 32 rfl ?_
            refine gf9_11 dX9_doctrineAbove_32 35 rfl hk_l0 kw1_72 ?_
            refine x_icmp_ge dX9_doctrineAbove_35 46 38 rfl rfl (fun hc => ?_) (fun hc => ?_)
            · have h := h.1 hc
              exact nX9_doctrineAbove_46 hB4 hk_l0 h
            · have h := h.2 hc
              refine x_aload_n dX9_doctrineAbove_38 rfl 39 rfl ?_
              refine gf9_6 dX9_doctrineAbove_39 42 rfl hk_l0 kw1_60 ?_
              refine x_iload dX9_doctrineAbove_42 rfl 44 rfl ?_
              obtain ⟨hin, h⟩ := h
              refine x_iaload dX9_doctrineAbove_44 (ly9_6 hk_l0) hin 45 rfl ?_
              exact x_iret dX9_doctrineAbove_45 ⟨rfl, h⟩
  exact hB4 n l2 l3 h
def FX9_doctrineAbove (Q : Int32 → Prop) (l0 : Nat) (l1 : Int32) (M : Mem) : Prop :=
  NX9_doctrineAbove_4 Q l0 l1 0 0 M
theorem eX9_doctrineAbove {Q : Int32 → Prop} {l0 : Nat} {l1 : Int32} {M : Mem} (hk_l0 : SHk l0 = 9) (h : FX9_doctrineAbove Q l0 l1 M) : xX RX9 cX9_doctrineAbove 5 (some .int) 1 0 [(0, .ref l0), (1, .int l1)] [] M (xQi (xP M Q)) := by
  unfold FX9_doctrineAbove at h
  refine x_iconst dX9_doctrineAbove_0 kc_0 1 rfl ?_
  refine x_istore_n dX9_doctrineAbove_1 (Nat.le_of_ble_eq_true rfl) [(0, .ref l0), (1, .int l1), (2, .int 0)] rfl 2 rfl ?_
  refine x_iconst dX9_doctrineAbove_2 kc_0 3 rfl ?_
  refine x_istore_n dX9_doctrineAbove_3 (Nat.le_of_ble_eq_true rfl) [(0, .ref l0), (1, .int l1), (2, .int 0), (3, .int 0)] rfl 4 rfl ?_
  exact nX9_doctrineAbove_4 hk_l0 h
theorem cX9_doctrineAbove_ {Q : Int32 → Prop} {l0 : Nat} {l1 : Int32} {M : Mem} (hk_l0 : SHk l0 = 9) (h : FX9_doctrineAbove Q l0 l1 M) : xM yX9_doctrineAbove cX9_doctrineAbove 5 (some .int) 1 [.ref l0, .int l1] M (xQi (xP M Q)) := xM_of (by decide +kernel) (Nat.le_of_ble_eq_true rfl) (eX9_doctrineAbove hk_l0 h)
theorem kX9_doctrineAbove {own : String} {cc : ByteArray} {nL : Nat} {rt : Option FieldType} {d pc ix : Nat} {L : List (Nat × Value)} {st : List Value} {M : Mem} {Rt : xGt → Array Value → State → Outcome → State → Prop} {Q : Int32 → Prop} {l0 : Nat} {l1 : Int32} (hd : decode cc pc = .ok (.invokevirtual ix, 3)) (q : Nat) (hq : pc + 3 = q) (hk_l0 : SHk l0 = 9) (w1 : Cond.methodLink own ix yX9_doctrineAbove ∈ xTs) (hr : 1 < d) (hst : (st.map fun v => v.category).sum ≤ 8) (h : FX9_doctrineAbove Q l0 l1 M) (k : ∀ (r : Int32), Q r → xX own cc nL rt d q L (.int r :: st) M Rt) : xX own cc nL rt d pc L (.int l1 :: .ref l0 :: st) M Rt :=
  x_callV_i (n := 1) (As := [.int l1]) hd q hq hk_l0 (by decide) rfl rfl w1 kw3_104 kw3_105 kw1_3 kw3_106 (by decide +kernel) rfl hr (by decide) hst _ rfl (cX9_doctrineAbove_ hk_l0 h) (fun r N hN => by obtain ⟨rfl, hN⟩ := hN; exact k r hN)
def FX9_isSaint (Q : Bool → Prop) (l0 : Nat) (l1 : Int32) (M : Mem) : Prop :=
  ((l1 < 0 → Q false) ∧ (¬ l1 < 0 → (((M l0 11) ≤ l1 → Q false) ∧ (¬ (M l0 11) ≤ l1 → Q true))))
theorem eX9_isSaint {Q : Bool → Prop} {l0 : Nat} {l1 : Int32} {M : Mem} (hk_l0 : SHk l0 = 9) (h : FX9_isSaint Q l0 l1 M) : xX RX9 cX9_isSaint 2 (some .boolean) 1 0 [(0, .ref l0), (1, .int l1)] [] M (xQb (xP M Q)) := by
  unfold FX9_isSaint at h
  refine x_iload_n dX9_isSaint_0 rfl 1 rfl ?_
  refine x_if_lt dX9_isSaint_1 16 4 rfl rfl (fun hc => ?_) (fun hc => ?_)
  · have h := h.1 hc
    refine x_iconst dX9_isSaint_16 kc_0 17 rfl ?_
    exact x_zret (z := false) dX9_isSaint_17 ⟨rfl, h⟩
  · have h := h.2 hc
    refine x_iload_n dX9_isSaint_4 rfl 5 rfl ?_
    refine x_aload_n dX9_isSaint_5 rfl 6 rfl ?_
    refine gf9_11 dX9_isSaint_6 9 rfl hk_l0 kw1_72 ?_
    refine x_icmp_ge dX9_isSaint_9 16 12 rfl rfl (fun hc => ?_) (fun hc => ?_)
    · have h := h.1 hc
      refine x_iconst dX9_isSaint_16 kc_0 17 rfl ?_
      exact x_zret (z := false) dX9_isSaint_17 ⟨rfl, h⟩
    · have h := h.2 hc
      refine x_iconst dX9_isSaint_12 kc_1 13 rfl ?_
      refine x_goto dX9_isSaint_13 17 rfl ?_
      exact x_zret (z := true) dX9_isSaint_17 ⟨rfl, h⟩
theorem cX9_isSaint_ {Q : Bool → Prop} {l0 : Nat} {l1 : Int32} {M : Mem} (hk_l0 : SHk l0 = 9) (h : FX9_isSaint Q l0 l1 M) : xM yX9_isSaint cX9_isSaint 2 (some .boolean) 1 [.ref l0, .int l1] M (xQb (xP M Q)) := xM_of (by decide +kernel) (Nat.le_of_ble_eq_true rfl) (eX9_isSaint hk_l0 h)
theorem kX9_isSaint {own : String} {cc : ByteArray} {nL : Nat} {rt : Option FieldType} {d pc ix : Nat} {L : List (Nat × Value)} {st : List Value} {M : Mem} {Rt : xGt → Array Value → State → Outcome → State → Prop} {Q : Bool → Prop} {l0 : Nat} {l1 : Int32} (hd : decode cc pc = .ok (.invokevirtual ix, 3)) (q : Nat) (hq : pc + 3 = q) (hk_l0 : SHk l0 = 9) (w1 : Cond.methodLink own ix yX9_isSaint ∈ xTs) (hr : 1 < d) (hst : (st.map fun v => v.category).sum ≤ 8) (h : FX9_isSaint Q l0 l1 M) (k : ∀ (r : Bool), Q r → xX own cc nL rt d q L (.int (bI r) :: st) M Rt) : xX own cc nL rt d pc L (.int l1 :: .ref l0 :: st) M Rt :=
  x_callV_b (n := 1) (As := [.int l1]) hd q hq hk_l0 (by decide) rfl rfl w1 kw2_234 kw2_235 kw1_3 kw2_236 (by decide +kernel) rfl hr (by decide) hst _ rfl (cX9_isSaint_ hk_l0 h) (fun r N hN => by obtain ⟨rfl, hN⟩ := hN; exact k r hN)
def lbX9_pillarOf_2 (Q : Int32 → Prop) (l0 : Nat) (l1 : Int32) (M : Mem) (B2 : Int32 → Prop) (l2 : Int32) : Prop :=
  (((M l0 10) ≤ l2 → Q (-1)) ∧ (¬ (M l0 10) ≤ l2 → vp_in l2 10 ∧ ((¬ (M (l0 + 2) (ix l2)) = l1 → B2 (l2 + 1)) ∧ ((M (l0 + 2) (ix l2)) = l1 → ((l1 = (-1) → B2 (l2 + 1)) ∧ (¬ l1 = (-1) → Q l2))))))
def NX9_pillarOf_2 (Q : Int32 → Prop) (l0 : Nat) (l1 : Int32) (l2 : Int32) (M : Mem) : Prop := xlp (fun (B : Int32 → Prop) a => lbX9_pillarOf_2 Q l0 l1 M (fun l2 => B (l2)) a) (l2)
theorem nX9_pillarOf_2 {Q : Int32 → Prop} {l0 : Nat} {l1 : Int32} {l2 : Int32} {M : Mem} (hk_l0 : SHk l0 = 9) (h : NX9_pillarOf_2 Q l0 l1 l2 M) : xX RX9 cX9_pillarOf 3 (some .int) 1 2 [(0, .ref l0), (1, .int l1), (2, .int l2)] [] M (xQi (xP M Q)) := by
  obtain ⟨n, h⟩ := h
  have hB2 : ∀ (n : Nat) (l2 : Int32), xlpn (fun (B : Int32 → Prop) a => lbX9_pillarOf_2 Q l0 l1 M (fun l2 => B (l2)) a) n (l2) → xX RX9 cX9_pillarOf 3 (some .int) 1 2 [(0, .ref l0), (1, .int l1), (2, .int l2)] [] M (xQi (xP M Q)) := by
    intro n
    induction n with
    | zero => intro l2 h; exact False.elim h
    | succ n ih =>
      intro l2 h
      have hB2 := ih
      have h : lbX9_pillarOf_2 Q l0 l1 M (fun l2 => xlpn (fun (B : Int32 → Prop) a => lbX9_pillarOf_2 Q l0 l1 M (fun l2 => B (l2)) a) n (l2)) l2 := h
      unfold lbX9_pillarOf_2 at h
      refine x_iload_n dX9_pillarOf_2 rfl 3 rfl ?_
      refine x_aload_n dX9_pillarOf_3 rfl 4 rfl ?_
      refine gf9_10 dX9_pillarOf_4 7 rfl hk_l0 kw1_68 ?_
      refine x_icmp_ge dX9_pillarOf_7 33 10 rfl rfl (fun hc => ?_) (fun hc => ?_)
      · have h := h.1 hc
        refine x_iconst dX9_pillarOf_33 kc_m1 34 rfl ?_
        exact x_iret dX9_pillarOf_34 ⟨rfl, h⟩
      · have h := h.2 hc
        refine x_aload_n dX9_pillarOf_10 rfl 11 rfl ?_
        refine gf9_2 dX9_pillarOf_11 14 rfl hk_l0 kw1_50 ?_
        refine x_iload_n dX9_pillarOf_14 rfl 15 rfl ?_
        obtain ⟨hin, h⟩ := h
        refine x_iaload dX9_pillarOf_15 (ly9_2 hk_l0) hin 16 rfl ?_
        refine x_iload_n dX9_pillarOf_16 rfl 17 rfl ?_
        refine x_icmp_ne dX9_pillarOf_17 27 20 rfl rfl (fun hc => ?_) (fun hc => ?_)
        · have h := h.1 hc
          refine x_iinc dX9_pillarOf_27 rfl (congrArg (l2 + ·) kc_1) (Nat.le_of_ble_eq_true rfl) [(0, .ref l0), (1, .int l1), (2, .int (l2 + 1))] rfl 30 rfl ?_
          refine x_goto dX9_pillarOf_30 2 rfl ?_
          exact hB2 _ h
        · have h := h.2 hc
          refine x_iload_n dX9_pillarOf_20 rfl 21 rfl ?_
          refine x_iconst dX9_pillarOf_21 kc_m1 22 rfl ?_
          refine x_icmp_eq dX9_pillarOf_22 27 25 rfl rfl (fun hc => ?_) (fun hc => ?_)
          · have h := h.1 hc
            refine x_iinc dX9_pillarOf_27 rfl (congrArg (l2 + ·) kc_1) (Nat.le_of_ble_eq_true rfl) [(0, .ref l0), (1, .int l1), (2, .int (l2 + 1))] rfl 30 rfl ?_
            refine x_goto dX9_pillarOf_30 2 rfl ?_
            exact hB2 _ h
          · have h := h.2 hc
            refine x_iload_n dX9_pillarOf_25 rfl 26 rfl ?_
            exact x_iret dX9_pillarOf_26 ⟨rfl, h⟩
  exact hB2 n l2 h
def FX9_pillarOf (Q : Int32 → Prop) (l0 : Nat) (l1 : Int32) (M : Mem) : Prop :=
  NX9_pillarOf_2 Q l0 l1 0 M
theorem eX9_pillarOf {Q : Int32 → Prop} {l0 : Nat} {l1 : Int32} {M : Mem} (hk_l0 : SHk l0 = 9) (h : FX9_pillarOf Q l0 l1 M) : xX RX9 cX9_pillarOf 3 (some .int) 1 0 [(0, .ref l0), (1, .int l1)] [] M (xQi (xP M Q)) := by
  unfold FX9_pillarOf at h
  refine x_iconst dX9_pillarOf_0 kc_0 1 rfl ?_
  refine x_istore_n dX9_pillarOf_1 (Nat.le_of_ble_eq_true rfl) [(0, .ref l0), (1, .int l1), (2, .int 0)] rfl 2 rfl ?_
  exact nX9_pillarOf_2 hk_l0 h
theorem cX9_pillarOf_ {Q : Int32 → Prop} {l0 : Nat} {l1 : Int32} {M : Mem} (hk_l0 : SHk l0 = 9) (h : FX9_pillarOf Q l0 l1 M) : xM yX9_pillarOf cX9_pillarOf 3 (some .int) 1 [.ref l0, .int l1] M (xQi (xP M Q)) := xM_of (by decide +kernel) (Nat.le_of_ble_eq_true rfl) (eX9_pillarOf hk_l0 h)
theorem kX9_pillarOf {own : String} {cc : ByteArray} {nL : Nat} {rt : Option FieldType} {d pc ix : Nat} {L : List (Nat × Value)} {st : List Value} {M : Mem} {Rt : xGt → Array Value → State → Outcome → State → Prop} {Q : Int32 → Prop} {l0 : Nat} {l1 : Int32} (hd : decode cc pc = .ok (.invokevirtual ix, 3)) (q : Nat) (hq : pc + 3 = q) (hk_l0 : SHk l0 = 9) (w1 : Cond.methodLink own ix yX9_pillarOf ∈ xTs) (hr : 1 < d) (hst : (st.map fun v => v.category).sum ≤ 8) (h : FX9_pillarOf Q l0 l1 M) (k : ∀ (r : Int32), Q r → xX own cc nL rt d q L (.int r :: st) M Rt) : xX own cc nL rt d pc L (.int l1 :: .ref l0 :: st) M Rt :=
  x_callV_i (n := 1) (As := [.int l1]) hd q hq hk_l0 (by decide) rfl rfl w1 kw3_10 kw3_11 kw1_3 kw3_12 (by decide +kernel) rfl hr (by decide) hst _ rfl (cX9_pillarOf_ hk_l0 h) (fun r N hN => by obtain ⟨rfl, hN⟩ := hN; exact k r hN)
def FX2_named (Q : Int32 → Prop) (l0 : Int32) (l1 : Nat) (l2 : Int32) (M : Mem) : Prop :=
  FX9_isSaint (fun (r1 : Bool) => ((r1 = true → FX9_pillarOf (fun (r2 : Int32) => ((l0 = 7 → vp_in l2 14 ∧ Q (M (l1 + 4) (ix l2))) ∧ (l0 = 8 → vp_in l2 14 ∧ Q (M (l1 + 5) (ix l2))) ∧ (l0 = 9 → vp_in l2 14 ∧ Q (M (l1 + 6) (ix l2))) ∧ (l0 = 10 → vp_in l2 14 ∧ Q (M (l1 + 7) (ix l2))) ∧ (l0 = 11 → Q (r2 + 1)) ∧ (l0 = 12 → ((¬ r2 = (-1) → vp_in r2 10 ∧ Q (M (l1 + 1) (ix r2))) ∧ (r2 = (-1) → Q 0))) ∧ (l0 = 13 → Q (M l1 14)) ∧ (l0 = 14 → FX9_doctrineAbove (fun (r3 : Int32) => Q r3) l1 l2 M) ∧ (¬ l0 = 7 → ¬ l0 = 8 → ¬ l0 = 9 → ¬ l0 = 10 → ¬ l0 = 11 → ¬ l0 = 12 → ¬ l0 = 13 → ¬ l0 = 14 → Q (M l1 15)))) l1 l2 M) ∧ (r1 = false → Q 0))) l1 l2 M
theorem eX2_named {Q : Int32 → Prop} {l0 : Int32} {l1 : Nat} {l2 : Int32} {M : Mem} (hk_l1 : SHk l1 = 9) (h : FX2_named Q l0 l1 l2 M) : xX RX2 cX2_named 4 (some .int) 2 0 [(0, .int l0), (1, .ref l1), (2, .int l2)] [] M (xQi (xP M Q)) := by
  unfold FX2_named at h
  refine x_aload_n dX2_named_0 rfl 1 rfl ?_
  refine x_iload_n dX2_named_1 rfl 2 rfl ?_
  refine kX9_isSaint dX2_named_2 5 rfl hk_l1 kw3_91 (Nat.le_of_ble_eq_true rfl) (Nat.le_of_ble_eq_true rfl) h (fun r1 h => ?_)
  refine x_if_ne_b dX2_named_5 10 8 rfl rfl (fun hc => ?_) (fun hc => ?_)
  · have h := h.1 hc
    refine x_aload_n dX2_named_10 rfl 11 rfl ?_
    refine x_iload_n dX2_named_11 rfl 12 rfl ?_
    refine kX9_pillarOf dX2_named_12 15 rfl hk_l1 kw3_102 (Nat.le_of_ble_eq_true rfl) (Nat.le_of_ble_eq_true rfl) h (fun r2 h => ?_)
    refine x_istore_n dX2_named_15 (Nat.le_of_ble_eq_true rfl) [(0, .int l0), (1, .ref l1), (2, .int l2), (3, .int r2)] rfl 16 rfl ?_
    refine x_iload_n dX2_named_16 rfl 17 rfl ?_
    by_cases hc0 : l0 = 7
    · refine x_tab_at dX2_named_17 hc0 (by decide) (by decide) rfl (tg := 64) rfl ?_
      have h := h.1 hc0
      refine x_aload_n dX2_named_64 rfl 65 rfl ?_
      refine gf9_4 dX2_named_65 68 rfl hk_l1 kw1_57 ?_
      refine x_iload_n dX2_named_68 rfl 69 rfl ?_
      obtain ⟨hin, h⟩ := h
      refine x_iaload dX2_named_69 (ly9_4 hk_l1) hin 70 rfl ?_
      exact x_iret dX2_named_70 ⟨rfl, h⟩
    by_cases hc1 : l0 = 8
    · refine x_tab_at dX2_named_17 hc1 (by decide) (by decide) rfl (tg := 71) rfl ?_
      have h := h.2.1 hc1
      refine x_aload_n dX2_named_71 rfl 72 rfl ?_
      refine gf9_5 dX2_named_72 75 rfl hk_l1 kw1_59 ?_
      refine x_iload_n dX2_named_75 rfl 76 rfl ?_
      obtain ⟨hin, h⟩ := h
      refine x_iaload dX2_named_76 (ly9_5 hk_l1) hin 77 rfl ?_
      exact x_iret dX2_named_77 ⟨rfl, h⟩
    by_cases hc2 : l0 = 9
    · refine x_tab_at dX2_named_17 hc2 (by decide) (by decide) rfl (tg := 78) rfl ?_
      have h := h.2.2.1 hc2
      refine x_aload_n dX2_named_78 rfl 79 rfl ?_
      refine gf9_6 dX2_named_79 82 rfl hk_l1 kw1_62 ?_
      refine x_iload_n dX2_named_82 rfl 83 rfl ?_
      obtain ⟨hin, h⟩ := h
      refine x_iaload dX2_named_83 (ly9_6 hk_l1) hin 84 rfl ?_
      exact x_iret dX2_named_84 ⟨rfl, h⟩
    by_cases hc3 : l0 = 10
    · refine x_tab_at dX2_named_17 hc3 (by decide) (by decide) rfl (tg := 85) rfl ?_
      have h := h.2.2.2.1 hc3
      refine x_aload_n dX2_named_85 rfl 86 rfl ?_
      refine gf9_7 dX2_named_86 89 rfl hk_l1 kw1_64 ?_
      refine x_iload_n dX2_named_89 rfl 90 rfl ?_
      obtain ⟨hin, h⟩ := h
      refine x_iaload dX2_named_90 (ly9_7 hk_l1) hin 91 rfl ?_
      exact x_iret dX2_named_91 ⟨rfl, h⟩
    by_cases hc4 : l0 = 11
    · refine x_tab_at dX2_named_17 hc4 (by decide) (by decide) rfl (tg := 92) rfl ?_
      have h := h.2.2.2.2.1 hc4
      refine x_iload_n dX2_named_92 rfl 93 rfl ?_
      refine x_iconst dX2_named_93 kc_1 94 rfl ?_
      refine x_iadd dX2_named_94 95 rfl ?_
      exact x_iret dX2_named_95 ⟨rfl, h⟩
    by_cases hc5 : l0 = 12
    · refine x_tab_at dX2_named_17 hc5 (by decide) (by decide) rfl (tg := 96) rfl ?_
      have h := h.2.2.2.2.2.1 hc5
      refine x_iload_n dX2_named_96 rfl 97 rfl ?_
      refine x_iconst dX2_named_97 kc_m1 98 rfl ?_
      refine x_icmp_ne dX2_named_98 105 101 rfl rfl (fun hc => ?_) (fun hc => ?_)
      · have h := h.1 hc
        refine x_aload_n dX2_named_105 rfl 106 rfl ?_
        refine gf9_1 dX2_named_106 109 rfl hk_l1 kw1_49 ?_
        refine x_iload_n dX2_named_109 rfl 110 rfl ?_
        obtain ⟨hin, h⟩ := h
        refine x_iaload dX2_named_110 (ly9_1 hk_l1) hin 111 rfl ?_
        exact x_iret dX2_named_111 ⟨rfl, h⟩
      · have h := h.2 hc
        refine x_iconst dX2_named_101 kc_0 102 rfl ?_
        refine x_goto dX2_named_102 111 rfl ?_
        exact x_iret dX2_named_111 ⟨rfl, h⟩
    by_cases hc6 : l0 = 13
    · refine x_tab_at dX2_named_17 hc6 (by decide) (by decide) rfl (tg := 112) rfl ?_
      have h := h.2.2.2.2.2.2.1 hc6
      refine x_aload_n dX2_named_112 rfl 113 rfl ?_
      refine gf9_14 dX2_named_113 116 rfl hk_l1 kw1_84 ?_
      exact x_iret dX2_named_116 ⟨rfl, h⟩
    by_cases hc7 : l0 = 14
    · refine x_tab_at dX2_named_17 hc7 (by decide) (by decide) rfl (tg := 117) rfl ?_
      have h := h.2.2.2.2.2.2.2.1 hc7
      refine x_aload_n dX2_named_117 rfl 118 rfl ?_
      refine x_iload_n dX2_named_118 rfl 119 rfl ?_
      refine kX9_doctrineAbove dX2_named_119 122 rfl hk_l1 kw3_103 (Nat.le_of_ble_eq_true rfl) (Nat.le_of_ble_eq_true rfl) h (fun r3 h => ?_)
      exact x_iret dX2_named_122 ⟨rfl, h⟩
    have h := h.2.2.2.2.2.2.2.2 hc0 hc1 hc2 hc3 hc4 hc5 hc6 hc7
    refine x_tab_out dX2_named_17 (by have a0 := lv_neT hc0 (a := 7) (by decide); have a1 := lv_neT hc1 (a := 8) (by decide); have a2 := lv_neT hc2 (a := 9) (by decide); have a3 := lv_neT hc3 (a := 10) (by decide); have a4 := lv_neT hc4 (a := 11) (by decide); have a5 := lv_neT hc5 (a := 12) (by decide); have a6 := lv_neT hc6 (a := 13) (by decide); have a7 := lv_neT hc7 (a := 14) (by decide); show (l0 : Int32).toInt < 7 ∨ 14 < (l0 : Int32).toInt; omega) (tg := 123) rfl ?_
    refine x_aload_n dX2_named_123 rfl 124 rfl ?_
    refine gf9_15 dX2_named_124 127 rfl hk_l1 kw1_89 ?_
    exact x_iret dX2_named_127 ⟨rfl, h⟩
  · have h := h.2 hc
    refine x_iconst dX2_named_8 kc_0 9 rfl ?_
    exact x_iret dX2_named_9 ⟨rfl, h⟩
theorem cX2_named_ {Q : Int32 → Prop} {l0 : Int32} {l1 : Nat} {l2 : Int32} {M : Mem} (hk_l1 : SHk l1 = 9) (h : FX2_named Q l0 l1 l2 M) : xM yX2_named cX2_named 4 (some .int) 2 [.int l0, .ref l1, .int l2] M (xQi (xP M Q)) := xM_of (by decide +kernel) (Nat.le_of_ble_eq_true rfl) (eX2_named hk_l1 h)
theorem kX2_named {own : String} {cc : ByteArray} {nL : Nat} {rt : Option FieldType} {d pc ix : Nat} {L : List (Nat × Value)} {st : List Value} {M : Mem} {Rt : xGt → Array Value → State → Outcome → State → Prop} {Q : Int32 → Prop} {l0 : Int32} {l1 : Nat} {l2 : Int32} (hd : decode cc pc = .ok (.invokestatic ix, 3)) (q : Nat) (hq : pc + 3 = q) (hk_l1 : SHk l1 = 9) (w1 : Cond.methodLink own ix yX2_named ∈ xTs) (hr : 2 < d) (hst : (st.map fun v => v.category).sum ≤ 8) (h : FX2_named Q l0 l1 l2 M) (k : ∀ (r : Int32), Q r → xX own cc nL rt d q L (.int r :: st) M Rt) : xX own cc nL rt d pc L (.int l2 :: .ref l1 :: .int l0 :: st) M Rt :=
  x_callS_i (n := 3) (As := [.int l0, .ref l1, .int l2]) hd q hq w1 kw3_100 kw1_5 kw3_101 (by decide +kernel) rfl hr (by decide) hst _ rfl (cX2_named_ hk_l1 h) (fun r N hN => by obtain ⟨rfl, hN⟩ := hN; exact k r hN)
def NX2_run_82 (Q : Int32 → Mem → Prop) (B10 : Int32 → Int32 → Mem → Prop) (l0 : Nat) (l2 : Int32) (l3 : Nat) (l4 : Int32) (l5 : Int32) (l6 : Int32) (s0 : Nat) (s1 : Int32) (s2 : Int32) (M : Mem) : Prop :=
  vp_in s1 (SHn s0) ∧ ∀ M1 : Mem, M1 = xu M s0 (ix s1) s2 → B10 (l5 + 1) (l6 + 1) M1
theorem nX2_run_82 {Q : Int32 → Mem → Prop} {B10 : Int32 → Int32 → Mem → Prop} {l0 : Nat} {l2 : Int32} {l3 : Nat} {l4 : Int32} {l5 : Int32} {l6 : Int32} {s0 : Nat} {s1 : Int32} {s2 : Int32} {M : Mem} (hB10 : ∀ (l5 : Int32) (l6 : Int32) (M : Mem), B10 l5 l6 M → xX RX2 cX2_run 8 (some .int) 3 10 [(0, .ref l0), (2, .int l2), (3, .ref l3), (4, .int l4), (5, .int l5), (6, .int l6)] [] M (xQi Q)) (hk_l0 : SHk l0 = 2) (hk_l3 : SHk l3 = 9) (hk_s0 : SHk s0 = 13) (h : NX2_run_82 Q B10 l0 l2 l3 l4 l5 l6 s0 s1 s2 M) : xX RX2 cX2_run 8 (some .int) 3 82 [(0, .ref l0), (2, .int l2), (3, .ref l3), (4, .int l4), (5, .int l5), (6, .int l6)] [.int s2, .int s1, .ref s0] M (xQi Q) := by
  unfold NX2_run_82 at h
  obtain ⟨hin, h⟩ := h
  refine x_iastore dX2_run_82 ⟨hk_s0, rfl⟩ hin 83 rfl (x_mem (fun M1 hM1 => ?_))
  have h := h M1 hM1
  refine x_iinc dX2_run_83 rfl (congrArg (l5 + ·) kc_1) (Nat.le_of_ble_eq_true rfl) [(0, .ref l0), (2, .int l2), (3, .ref l3), (4, .int l4), (5, .int (l5 + 1)), (6, .int l6)] rfl 86 rfl ?_
  refine x_goto dX2_run_86 184 rfl ?_
  refine x_iinc dX2_run_184 rfl (congrArg (l6 + ·) kc_1) (Nat.le_of_ble_eq_true rfl) [(0, .ref l0), (2, .int l2), (3, .ref l3), (4, .int l4), (5, .int (l5 + 1)), (6, .int (l6 + 1))] rfl 187 rfl ?_
  refine x_goto dX2_run_187 10 rfl ?_
  exact hB10 _ _ _ h
def NX2_run_45 (Q : Int32 → Mem → Prop) (B10 : Int32 → Int32 → Mem → Prop) (l0 : Nat) (l2 : Int32) (l3 : Nat) (l4 : Int32) (l5 : Int32) (l6 : Int32) (l7 : Int32) (M : Mem) : Prop :=
  ((32 ≤ l5 → B10 l5 (l6 + 1) M) ∧ (¬ 32 ≤ l5 → ((l7 < 0 → FX2_named (fun (r2 : Int32) => NX2_run_82 Q B10 l0 l2 l3 l4 l5 l6 (l0 + 6) l5 r2 M) ((-100) - l7) l3 l4 M) ∧ (¬ l7 < 0 → NX2_run_82 Q B10 l0 l2 l3 l4 l5 l6 (l0 + 6) l5 l7 M))))
theorem nX2_run_45 {Q : Int32 → Mem → Prop} {B10 : Int32 → Int32 → Mem → Prop} {l0 : Nat} {l2 : Int32} {l3 : Nat} {l4 : Int32} {l5 : Int32} {l6 : Int32} {l7 : Int32} {M : Mem} (hB10 : ∀ (l5 : Int32) (l6 : Int32) (M : Mem), B10 l5 l6 M → xX RX2 cX2_run 8 (some .int) 3 10 [(0, .ref l0), (2, .int l2), (3, .ref l3), (4, .int l4), (5, .int l5), (6, .int l6)] [] M (xQi Q)) (hk_l0 : SHk l0 = 2) (hk_l3 : SHk l3 = 9) (h : NX2_run_45 Q B10 l0 l2 l3 l4 l5 l6 l7 M) : xX RX2 cX2_run 8 (some .int) 3 45 [(0, .ref l0), (2, .int l2), (3, .ref l3), (4, .int l4), (5, .int l5), (6, .int l6), (7, .int l7)] [] M (xQi Q) := by
  unfold NX2_run_45 at h
  refine x_iload dX2_run_45 rfl 47 rfl ?_
  refine x_aload_n dX2_run_47 rfl 48 rfl ?_
  refine gf2_5 dX2_run_48 51 rfl hk_l0 kw1_148 ?_
  refine x_alen (n := 32) dX2_run_51 (ly2_5 hk_l0) (by decide) 52 rfl ?_
  refine x_icmp_ge dX2_run_52 184 55 rfl rfl (fun hc => ?_) (fun hc => ?_)
  · have h := h.1 hc
    refine x_iinc dX2_run_184 rfl (congrArg (l6 + ·) kc_1) (Nat.le_of_ble_eq_true rfl) [(0, .ref l0), (2, .int l2), (3, .ref l3), (4, .int l4), (5, .int l5), (6, .int (l6 + 1)), (7, .int l7)] rfl 187 rfl ?_
    refine x_goto dX2_run_187 10 rfl ?_
    refine x_weak [(0, .ref l0), (2, .int l2), (3, .ref l3), (4, .int l4), (5, .int l5), (6, .int (l6 + 1))] [0, 1, 2, 3, 4, 5] rfl ?_
    exact hB10 _ _ _ h
  · have h := h.2 hc
    refine x_aload_n dX2_run_55 rfl 56 rfl ?_
    refine gf2_5 dX2_run_56 59 rfl hk_l0 kw1_148 ?_
    refine x_iload dX2_run_59 rfl 61 rfl ?_
    refine x_iload dX2_run_61 rfl 63 rfl ?_
    refine x_if_lt dX2_run_63 71 66 rfl rfl (fun hc => ?_) (fun hc => ?_)
    · have h := h.1 hc
      refine x_bipush dX2_run_71 kb_m100 73 rfl ?_
      refine x_iload dX2_run_73 rfl 75 rfl ?_
      refine x_isub dX2_run_75 76 rfl ?_
      refine x_aload_n dX2_run_76 rfl 77 rfl ?_
      refine x_iload dX2_run_77 rfl 79 rfl ?_
      refine kX2_named dX2_run_79 82 rfl hk_l3 kw3_99 (Nat.le_of_ble_eq_true rfl) (Nat.le_of_ble_eq_true rfl) h (fun r2 h => ?_)
      refine x_weak [(0, .ref l0), (2, .int l2), (3, .ref l3), (4, .int l4), (5, .int l5), (6, .int l6)] [0, 1, 2, 3, 4, 5] rfl ?_
      exact nX2_run_82 hB10 hk_l0 hk_l3 (ly2_5 hk_l0).1 h
    · have h := h.2 hc
      refine x_iload dX2_run_66 rfl 68 rfl ?_
      refine x_goto dX2_run_68 82 rfl ?_
      refine x_weak [(0, .ref l0), (2, .int l2), (3, .ref l3), (4, .int l4), (5, .int l5), (6, .int l6)] [0, 1, 2, 3, 4, 5] rfl ?_
      exact nX2_run_82 hB10 hk_l0 hk_l3 (ly2_5 hk_l0).1 h
def NX2_run_190 (Q : Int32 → Mem → Prop) (l0 : Nat) (l5 : Int32) (M : Mem) : Prop :=
  ((l5 ≤ 0 → Q 0 M) ∧ (¬ l5 ≤ 0 → Q (M (l0 + 6) 0) M))
theorem nX2_run_190 {Q : Int32 → Mem → Prop} {l0 : Nat} {l5 : Int32} {M : Mem} (hk_l0 : SHk l0 = 2) (h : NX2_run_190 Q l0 l5 M) : xX RX2 cX2_run 8 (some .int) 3 190 [(0, .ref l0), (5, .int l5)] [] M (xQi Q) := by
  unfold NX2_run_190 at h
  refine x_iload dX2_run_190 rfl 192 rfl ?_
  refine x_if_le dX2_run_192 204 195 rfl rfl (fun hc => ?_) (fun hc => ?_)
  · have h := h.1 hc
    refine x_iconst dX2_run_204 kc_0 205 rfl ?_
    exact x_iret dX2_run_205 h
  · have h := h.2 hc
    refine x_aload_n dX2_run_195 rfl 196 rfl ?_
    refine gf2_5 dX2_run_196 199 rfl hk_l0 kw1_148 ?_
    refine x_iconst dX2_run_199 kc_0 200 rfl ?_
    refine x_iaload dX2_run_200 (ly2_5 hk_l0) (by unfold vp_in; decide) 201 rfl ?_
    refine x_goto dX2_run_201 205 rfl ?_
    exact x_iret dX2_run_205 h
def lbX2_run_10 (Q : Int32 → Mem → Prop) (l0 : Nat) (l2 : Int32) (l3 : Nat) (l4 : Int32) (B10 : Int32 → Int32 → Mem → Prop) (l5 : Int32) (l6 : Int32) (M : Mem) : Prop :=
  ((l2 ≤ l6 → NX2_run_190 Q l0 l5 M) ∧ (¬ l2 ≤ l6 → ((400 ≤ l6 → NX2_run_190 Q l0 l5 M) ∧ (¬ 400 ≤ l6 → vp_in l6 400 ∧ ((0 ≤ (M (l0 + 1) (ix l6)) → NX2_run_45 Q B10 l0 l2 l3 l4 l5 l6 (M (l0 + 1) (ix l6)) M) ∧ (¬ 0 ≤ (M (l0 + 1) (ix l6)) → (((-100) < (M (l0 + 1) (ix l6)) → ((¬ (M (l0 + 1) (ix l6)) = (-10) → ((l5 < 2 → B10 l5 (l6 + 1) M) ∧ (¬ l5 < 2 → ((32 < l5 → B10 l5 (l6 + 1) M) ∧ (¬ 32 < l5 → vp_in ((l5 + (-1)) - 1) 32 ∧ vp_in (l5 + (-1)) 32 ∧ FX2_joined (fun (r3 : Int32) => vp_in ((l5 + (-1)) - 1) 32 ∧ ∀ M4 : Mem, M4 = xu M (l0 + 6) (ix ((l5 + (-1)) - 1)) r3 → B10 (l5 + (-1)) (l6 + 1) M4) (M (l0 + 1) (ix l6)) (M (l0 + 6) (ix ((l5 + (-1)) - 1))) (M (l0 + 6) (ix (l5 + (-1)))) M))))) ∧ ((M (l0 + 1) (ix l6)) = (-10) → ((l5 < 1 → B10 l5 (l6 + 1) M) ∧ (¬ l5 < 1 → ((32 < l5 → B10 l5 (l6 + 1) M) ∧ (¬ 32 < l5 → vp_in (l5 - 1) 32 ∧ vp_in (l5 - 1) 32 ∧ ∀ M5 : Mem, M5 = xu M (l0 + 6) (ix (l5 - 1)) (1 - (M (l0 + 6) (ix (l5 - 1)))) → B10 l5 (l6 + 1) M5))))))) ∧ (¬ (-100) < (M (l0 + 1) (ix l6)) → NX2_run_45 Q B10 l0 l2 l3 l4 l5 l6 (M (l0 + 1) (ix l6)) M))))))))
def NX2_run_10 (Q : Int32 → Mem → Prop) (l0 : Nat) (l2 : Int32) (l3 : Nat) (l4 : Int32) (l5 : Int32) (l6 : Int32) (M : Mem) : Prop := xlp (fun (B : Int32 × Int32 × Mem → Prop) a => lbX2_run_10 Q l0 l2 l3 l4 (fun l5 l6 M => B (l5, l6, M)) a.1 a.2.1 a.2.2) (l5, l6, M)
theorem nX2_run_10 {Q : Int32 → Mem → Prop} {l0 : Nat} {l2 : Int32} {l3 : Nat} {l4 : Int32} {l5 : Int32} {l6 : Int32} {M : Mem} (hk_l0 : SHk l0 = 2) (hk_l3 : SHk l3 = 9) (h : NX2_run_10 Q l0 l2 l3 l4 l5 l6 M) : xX RX2 cX2_run 8 (some .int) 3 10 [(0, .ref l0), (2, .int l2), (3, .ref l3), (4, .int l4), (5, .int l5), (6, .int l6)] [] M (xQi Q) := by
  obtain ⟨n, h⟩ := h
  have hB10 : ∀ (n : Nat) (l5 : Int32) (l6 : Int32) (M : Mem), xlpn (fun (B : Int32 × Int32 × Mem → Prop) a => lbX2_run_10 Q l0 l2 l3 l4 (fun l5 l6 M => B (l5, l6, M)) a.1 a.2.1 a.2.2) n (l5, l6, M) → xX RX2 cX2_run 8 (some .int) 3 10 [(0, .ref l0), (2, .int l2), (3, .ref l3), (4, .int l4), (5, .int l5), (6, .int l6)] [] M (xQi Q) := by
    intro n
    induction n with
    | zero => intro l5 l6 M h; exact False.elim h
    | succ n ih =>
      intro l5 l6 M h
      have hB10 := ih
      have h : lbX2_run_10 Q l0 l2 l3 l4 (fun l5 l6 M => xlpn (fun (B : Int32 × Int32 × Mem → Prop) a => lbX2_run_10 Q l0 l2 l3 l4 (fun l5 l6 M => B (l5, l6, M)) a.1 a.2.1 a.2.2) n (l5, l6, M)) l5 l6 M := h
      unfold lbX2_run_10 at h
      refine x_iload dX2_run_10 rfl 12 rfl ?_
      refine x_iload_n dX2_run_12 rfl 13 rfl ?_
      refine x_icmp_ge dX2_run_13 190 16 rfl rfl (fun hc => ?_) (fun hc => ?_)
      · have h := h.1 hc
        refine x_weak [(0, .ref l0), (5, .int l5)] [0, 4] rfl ?_
        exact nX2_run_190 hk_l0 h
      · have h := h.2 hc
        refine x_iload dX2_run_16 rfl 18 rfl ?_
        refine x_sipush dX2_run_18 kh_400 21 rfl ?_
        refine x_icmp_ge dX2_run_21 190 24 rfl rfl (fun hc => ?_) (fun hc => ?_)
        · have h := h.1 hc
          refine x_weak [(0, .ref l0), (5, .int l5)] [0, 4] rfl ?_
          exact nX2_run_190 hk_l0 h
        · have h := h.2 hc
          refine x_aload_n dX2_run_24 rfl 25 rfl ?_
          refine gf2_0 dX2_run_25 28 rfl hk_l0 kw1_143 ?_
          refine x_iload dX2_run_28 rfl 30 rfl ?_
          obtain ⟨hin, h⟩ := h
          refine x_iaload dX2_run_30 (ly2_0 hk_l0) hin 31 rfl ?_
          refine x_istore dX2_run_31 (Nat.le_of_ble_eq_true rfl) [(0, .ref l0), (2, .int l2), (3, .ref l3), (4, .int l4), (5, .int l5), (6, .int l6), (7, .int (M (l0 + 1) (ix l6)))] rfl 33 rfl ?_
          refine x_iload dX2_run_33 rfl 35 rfl ?_
          refine x_if_ge dX2_run_35 45 38 rfl rfl (fun hc => ?_) (fun hc => ?_)
          · have h := h.1 hc
            exact nX2_run_45 hB10 hk_l0 hk_l3 h
          · have h := h.2 hc
            refine x_iload dX2_run_38 rfl 40 rfl ?_
            refine x_bipush dX2_run_40 kb_m100 42 rfl ?_
            refine x_icmp_gt dX2_run_42 89 45 rfl rfl (fun hc => ?_) (fun hc => ?_)
            · have h := h.1 hc
              refine x_iload dX2_run_89 rfl 91 rfl ?_
              refine x_bipush dX2_run_91 kb_m10 93 rfl ?_
              refine x_icmp_ne dX2_run_93 135 96 rfl rfl (fun hc => ?_) (fun hc => ?_)
              · have h := h.1 hc
                refine x_iload dX2_run_135 rfl 137 rfl ?_
                refine x_iconst dX2_run_137 kc_2 138 rfl ?_
                refine x_icmp_lt dX2_run_138 184 141 rfl rfl (fun hc => ?_) (fun hc => ?_)
                · have h := h.1 hc
                  refine x_iinc dX2_run_184 rfl (congrArg (l6 + ·) kc_1) (Nat.le_of_ble_eq_true rfl) [(0, .ref l0), (2, .int l2), (3, .ref l3), (4, .int l4), (5, .int l5), (6, .int (l6 + 1)), (7, .int (M (l0 + 1) (ix l6)))] rfl 187 rfl ?_
                  refine x_goto dX2_run_187 10 rfl ?_
                  refine x_weak [(0, .ref l0), (2, .int l2), (3, .ref l3), (4, .int l4), (5, .int l5), (6, .int (l6 + 1))] [0, 1, 2, 3, 4, 5] rfl ?_
                  exact hB10 _ _ _ h
                · have h := h.2 hc
                  refine x_iload dX2_run_141 rfl 143 rfl ?_
                  refine x_aload_n dX2_run_143 rfl 144 rfl ?_
                  refine gf2_5 dX2_run_144 147 rfl hk_l0 kw1_148 ?_
                  refine x_alen (n := 32) dX2_run_147 (ly2_5 hk_l0) (by decide) 148 rfl ?_
                  refine x_icmp_gt dX2_run_148 184 151 rfl rfl (fun hc => ?_) (fun hc => ?_)
                  · have h := h.1 hc
                    refine x_iinc dX2_run_184 rfl (congrArg (l6 + ·) kc_1) (Nat.le_of_ble_eq_true rfl) [(0, .ref l0), (2, .int l2), (3, .ref l3), (4, .int l4), (5, .int l5), (6, .int (l6 + 1)), (7, .int (M (l0 + 1) (ix l6)))] rfl 187 rfl ?_
                    refine x_goto dX2_run_187 10 rfl ?_
                    refine x_weak [(0, .ref l0), (2, .int l2), (3, .ref l3), (4, .int l4), (5, .int l5), (6, .int (l6 + 1))] [0, 1, 2, 3, 4, 5] rfl ?_
                    exact hB10 _ _ _ h
                  · have h := h.2 hc
                    refine x_iinc dX2_run_151 rfl (congrArg (l5 + ·) kc_m1) (Nat.le_of_ble_eq_true rfl) [(0, .ref l0), (2, .int l2), (3, .ref l3), (4, .int l4), (5, .int (l5 + (-1))), (6, .int l6), (7, .int (M (l0 + 1) (ix l6)))] rfl 154 rfl ?_
                    refine x_aload_n dX2_run_154 rfl 155 rfl ?_
                    refine gf2_5 dX2_run_155 158 rfl hk_l0 kw1_148 ?_
                    refine x_iload dX2_run_158 rfl 160 rfl ?_
                    refine x_iconst dX2_run_160 kc_1 161 rfl ?_
                    refine x_isub dX2_run_161 162 rfl ?_
                    refine x_iload dX2_run_162 rfl 164 rfl ?_
                    refine x_aload_n dX2_run_164 rfl 165 rfl ?_
                    refine gf2_5 dX2_run_165 168 rfl hk_l0 kw1_148 ?_
                    refine x_iload dX2_run_168 rfl 170 rfl ?_
                    refine x_iconst dX2_run_170 kc_1 171 rfl ?_
                    refine x_isub dX2_run_171 172 rfl ?_
                    obtain ⟨hin, h⟩ := h
                    refine x_iaload dX2_run_172 (ly2_5 hk_l0) hin 173 rfl ?_
                    refine x_aload_n dX2_run_173 rfl 174 rfl ?_
                    refine gf2_5 dX2_run_174 177 rfl hk_l0 kw1_148 ?_
                    refine x_iload dX2_run_177 rfl 179 rfl ?_
                    obtain ⟨hin, h⟩ := h
                    refine x_iaload dX2_run_179 (ly2_5 hk_l0) hin 180 rfl ?_
                    refine kX2_joined dX2_run_180 183 rfl kw3_107 (Nat.le_of_ble_eq_true rfl) (Nat.le_of_ble_eq_true rfl) h (fun r3 h => ?_)
                    obtain ⟨hin, h⟩ := h
                    refine x_iastore dX2_run_183 (ly2_5 hk_l0) hin 184 rfl (x_mem (fun M4 hM4 => ?_))
                    have h := h M4 hM4
                    refine x_iinc dX2_run_184 rfl (congrArg (l6 + ·) kc_1) (Nat.le_of_ble_eq_true rfl) [(0, .ref l0), (2, .int l2), (3, .ref l3), (4, .int l4), (5, .int (l5 + (-1))), (6, .int (l6 + 1)), (7, .int (M (l0 + 1) (ix l6)))] rfl 187 rfl ?_
                    refine x_goto dX2_run_187 10 rfl ?_
                    refine x_weak [(0, .ref l0), (2, .int l2), (3, .ref l3), (4, .int l4), (5, .int (l5 + (-1))), (6, .int (l6 + 1))] [0, 1, 2, 3, 4, 5] rfl ?_
                    exact hB10 _ _ _ h
              · have h := h.2 hc
                refine x_iload dX2_run_96 rfl 98 rfl ?_
                refine x_iconst dX2_run_98 kc_1 99 rfl ?_
                refine x_icmp_lt dX2_run_99 184 102 rfl rfl (fun hc => ?_) (fun hc => ?_)
                · have h := h.1 hc
                  refine x_iinc dX2_run_184 rfl (congrArg (l6 + ·) kc_1) (Nat.le_of_ble_eq_true rfl) [(0, .ref l0), (2, .int l2), (3, .ref l3), (4, .int l4), (5, .int l5), (6, .int (l6 + 1)), (7, .int (M (l0 + 1) (ix l6)))] rfl 187 rfl ?_
                  refine x_goto dX2_run_187 10 rfl ?_
                  refine x_weak [(0, .ref l0), (2, .int l2), (3, .ref l3), (4, .int l4), (5, .int l5), (6, .int (l6 + 1))] [0, 1, 2, 3, 4, 5] rfl ?_
                  exact hB10 _ _ _ h
                · have h := h.2 hc
                  refine x_iload dX2_run_102 rfl 104 rfl ?_
                  refine x_aload_n dX2_run_104 rfl 105 rfl ?_
                  refine gf2_5 dX2_run_105 108 rfl hk_l0 kw1_148 ?_
                  refine x_alen (n := 32) dX2_run_108 (ly2_5 hk_l0) (by decide) 109 rfl ?_
                  refine x_icmp_gt dX2_run_109 184 112 rfl rfl (fun hc => ?_) (fun hc => ?_)
                  · have h := h.1 hc
                    refine x_iinc dX2_run_184 rfl (congrArg (l6 + ·) kc_1) (Nat.le_of_ble_eq_true rfl) [(0, .ref l0), (2, .int l2), (3, .ref l3), (4, .int l4), (5, .int l5), (6, .int (l6 + 1)), (7, .int (M (l0 + 1) (ix l6)))] rfl 187 rfl ?_
                    refine x_goto dX2_run_187 10 rfl ?_
                    refine x_weak [(0, .ref l0), (2, .int l2), (3, .ref l3), (4, .int l4), (5, .int l5), (6, .int (l6 + 1))] [0, 1, 2, 3, 4, 5] rfl ?_
                    exact hB10 _ _ _ h
                  · have h := h.2 hc
                    refine x_aload_n dX2_run_112 rfl 113 rfl ?_
                    refine gf2_5 dX2_run_113 116 rfl hk_l0 kw1_148 ?_
                    refine x_iload dX2_run_116 rfl 118 rfl ?_
                    refine x_iconst dX2_run_118 kc_1 119 rfl ?_
                    refine x_isub dX2_run_119 120 rfl ?_
                    refine x_iconst dX2_run_120 kc_1 121 rfl ?_
                    refine x_aload_n dX2_run_121 rfl 122 rfl ?_
                    refine gf2_5 dX2_run_122 125 rfl hk_l0 kw1_148 ?_
                    refine x_iload dX2_run_125 rfl 127 rfl ?_
                    refine x_iconst dX2_run_127 kc_1 128 rfl ?_
                    refine x_isub dX2_run_128 129 rfl ?_
                    obtain ⟨hin, h⟩ := h
                    refine x_iaload dX2_run_129 (ly2_5 hk_l0) hin 130 rfl ?_
                    refine x_isub dX2_run_130 131 rfl ?_
                    obtain ⟨hin, h⟩ := h
                    refine x_iastore dX2_run_131 (ly2_5 hk_l0) hin 132 rfl (x_mem (fun M5 hM5 => ?_))
                    have h := h M5 hM5
                    refine x_goto dX2_run_132 184 rfl ?_
                    refine x_iinc dX2_run_184 rfl (congrArg (l6 + ·) kc_1) (Nat.le_of_ble_eq_true rfl) [(0, .ref l0), (2, .int l2), (3, .ref l3), (4, .int l4), (5, .int l5), (6, .int (l6 + 1)), (7, .int (M (l0 + 1) (ix l6)))] rfl 187 rfl ?_
                    refine x_goto dX2_run_187 10 rfl ?_
                    refine x_weak [(0, .ref l0), (2, .int l2), (3, .ref l3), (4, .int l4), (5, .int l5), (6, .int (l6 + 1))] [0, 1, 2, 3, 4, 5] rfl ?_
                    exact hB10 _ _ _ h
            · have h := h.2 hc
              exact nX2_run_45 hB10 hk_l0 hk_l3 h
  exact hB10 n l5 l6 M h
def FX2_run (Q : Int32 → Mem → Prop) (l0 : Nat) (l1 : Int32) (l2 : Int32) (l3 : Nat) (l4 : Int32) (M : Mem) : Prop :=
  FJ9_max_7cf53 (fun (r6 : Int32) => NX2_run_10 Q l0 l2 l3 l4 0 r6 M) 0 l1 M
theorem eX2_run {Q : Int32 → Mem → Prop} {l0 : Nat} {l1 : Int32} {l2 : Int32} {l3 : Nat} {l4 : Int32} {M : Mem} (hk_l0 : SHk l0 = 2) (hk_l3 : SHk l3 = 9) (h : FX2_run Q l0 l1 l2 l3 l4 M) : xX RX2 cX2_run 8 (some .int) 3 0 [(0, .ref l0), (1, .int l1), (2, .int l2), (3, .ref l3), (4, .int l4)] [] M (xQi Q) := by
  unfold FX2_run at h
  refine x_iconst dX2_run_0 kc_0 1 rfl ?_
  refine x_istore dX2_run_1 (Nat.le_of_ble_eq_true rfl) [(0, .ref l0), (1, .int l1), (2, .int l2), (3, .ref l3), (4, .int l4), (5, .int 0)] rfl 3 rfl ?_
  refine x_iconst dX2_run_3 kc_0 4 rfl ?_
  refine x_iload_n dX2_run_4 rfl 5 rfl ?_
  refine kJ9_max_7cf53 dX2_run_5 8 rfl kw3_96 (Nat.le_of_ble_eq_true rfl) (Nat.le_of_ble_eq_true rfl) h (fun r6 h => ?_)
  refine x_istore dX2_run_8 (Nat.le_of_ble_eq_true rfl) [(0, .ref l0), (1, .int l1), (2, .int l2), (3, .ref l3), (4, .int l4), (5, .int 0), (6, .int r6)] rfl 10 rfl ?_
  refine x_weak [(0, .ref l0), (2, .int l2), (3, .ref l3), (4, .int l4), (5, .int 0), (6, .int r6)] [0, 2, 3, 4, 5, 6] rfl ?_
  exact nX2_run_10 hk_l0 hk_l3 h
theorem cX2_run_ {Q : Int32 → Mem → Prop} {l0 : Nat} {l1 : Int32} {l2 : Int32} {l3 : Nat} {l4 : Int32} {M : Mem} (hk_l0 : SHk l0 = 2) (hk_l3 : SHk l3 = 9) (h : FX2_run Q l0 l1 l2 l3 l4 M) : xM yX2_run cX2_run 8 (some .int) 3 [.ref l0, .int l1, .int l2, .ref l3, .int l4] M (xQi Q) := xM_of (by decide +kernel) (Nat.le_of_ble_eq_true rfl) (eX2_run hk_l0 hk_l3 h)
theorem kX2_run {own : String} {cc : ByteArray} {nL : Nat} {rt : Option FieldType} {d pc ix : Nat} {L : List (Nat × Value)} {st : List Value} {M : Mem} {Rt : xGt → Array Value → State → Outcome → State → Prop} {Q : Int32 → Mem → Prop} {l0 : Nat} {l1 : Int32} {l2 : Int32} {l3 : Nat} {l4 : Int32} (hd : decode cc pc = .ok (.invokevirtual ix, 3)) (q : Nat) (hq : pc + 3 = q) (hk_l0 : SHk l0 = 2) (hk_l3 : SHk l3 = 9) (w1 : Cond.methodLink own ix yX2_run ∈ xTs) (hr : 3 < d) (hst : (st.map fun v => v.category).sum ≤ 8) (h : FX2_run Q l0 l1 l2 l3 l4 M) (k : ∀ (r : Int32) (N : Mem), Q r N → xX own cc nL rt d q L (.int r :: st) N Rt) : xX own cc nL rt d pc L (.int l4 :: .ref l3 :: .int l2 :: .int l1 :: .ref l0 :: st) M Rt :=
  x_callV_i (n := 4) (As := [.int l1, .int l2, .ref l3, .int l4]) hd q hq hk_l0 (by decide) rfl rfl w1 kw3_94 ks1_6 kw1_5 kw3_95 (by decide +kernel) rfl hr (by decide) hst _ rfl (cX2_run_ hk_l0 hk_l3 h) k
def FJ9_floorDiv_7cf53 (Q : Int32 → Prop) (l0 : Int32) (l1 : Int32) (M : Mem) : Prop :=
  (¬ (l1 : Int32) = 0) ∧ ((0 ≤ (l0 ^^^ l1) → Q (l0 / l1)) ∧ (¬ 0 ≤ (l0 ^^^ l1) → ((((l0 / l1) * l1) = l0 → Q (l0 / l1)) ∧ (¬ ((l0 / l1) * l1) = l0 → Q ((l0 / l1) - 1)))))
theorem eJ9_floorDiv_7cf53 {Q : Int32 → Prop} {l0 : Int32} {l1 : Int32} {M : Mem} (h : FJ9_floorDiv_7cf53 Q l0 l1 M) : xX RJ9 cJ9_floorDiv_7cf53 3 (some .int) 1 0 [(0, .int l0), (1, .int l1)] [] M (xQi (xP M Q)) := by
  unfold FJ9_floorDiv_7cf53 at h
  refine x_iload_n dJ9_floorDiv_7cf53_0 rfl 1 rfl ?_
  refine x_iload_n dJ9_floorDiv_7cf53_1 rfl 2 rfl ?_
  obtain ⟨hne, h⟩ := h
  refine x_idiv dJ9_floorDiv_7cf53_2 hne 3 rfl ?_
  refine x_istore_n dJ9_floorDiv_7cf53_3 (Nat.le_of_ble_eq_true rfl) [(0, .int l0), (1, .int l1), (2, .int (l0 / l1))] rfl 4 rfl ?_
  refine x_iload_n dJ9_floorDiv_7cf53_4 rfl 5 rfl ?_
  refine x_iload_n dJ9_floorDiv_7cf53_5 rfl 6 rfl ?_
  refine x_ixor dJ9_floorDiv_7cf53_6 7 rfl ?_
  refine x_if_ge dJ9_floorDiv_7cf53_7 21 10 rfl rfl (fun hc => ?_) (fun hc => ?_)
  · have h := h.1 hc
    refine x_iload_n dJ9_floorDiv_7cf53_21 rfl 22 rfl ?_
    exact x_iret dJ9_floorDiv_7cf53_22 ⟨rfl, h⟩
  · have h := h.2 hc
    refine x_iload_n dJ9_floorDiv_7cf53_10 rfl 11 rfl ?_
    refine x_iload_n dJ9_floorDiv_7cf53_11 rfl 12 rfl ?_
    refine x_imul dJ9_floorDiv_7cf53_12 13 rfl ?_
    refine x_iload_n dJ9_floorDiv_7cf53_13 rfl 14 rfl ?_
    refine x_icmp_eq dJ9_floorDiv_7cf53_14 21 17 rfl rfl (fun hc => ?_) (fun hc => ?_)
    · have h := h.1 hc
      refine x_iload_n dJ9_floorDiv_7cf53_21 rfl 22 rfl ?_
      exact x_iret dJ9_floorDiv_7cf53_22 ⟨rfl, h⟩
    · have h := h.2 hc
      refine x_iload_n dJ9_floorDiv_7cf53_17 rfl 18 rfl ?_
      refine x_iconst dJ9_floorDiv_7cf53_18 kc_1 19 rfl ?_
      refine x_isub dJ9_floorDiv_7cf53_19 20 rfl ?_
      exact x_iret dJ9_floorDiv_7cf53_20 ⟨rfl, h⟩
theorem cJ9_floorDiv_7cf53_ {Q : Int32 → Prop} {l0 : Int32} {l1 : Int32} {M : Mem} (h : FJ9_floorDiv_7cf53 Q l0 l1 M) : xM yJ9_floorDiv_7cf53 cJ9_floorDiv_7cf53 3 (some .int) 1 [.int l0, .int l1] M (xQi (xP M Q)) := xM_ofF (by decide +kernel) (Nat.le_of_ble_eq_true rfl) (eJ9_floorDiv_7cf53 h)
theorem kJ9_floorDiv_7cf53 {own : String} {cc : ByteArray} {nL : Nat} {rt : Option FieldType} {d pc ix : Nat} {L : List (Nat × Value)} {st : List Value} {M : Mem} {Rt : xGt → Array Value → State → Outcome → State → Prop} {Q : Int32 → Prop} {l0 : Int32} {l1 : Int32} (hd : decode cc pc = .ok (.invokestatic ix, 3)) (q : Nat) (hq : pc + 3 = q) (w1 : Cond.methodLink own ix yJ9_floorDiv_7cf53 ∈ xTs) (hr : 1 < d) (hst : (st.map fun v => v.category).sum ≤ 8) (h : FJ9_floorDiv_7cf53 Q l0 l1 M) (k : ∀ (r : Int32), Q r → xX own cc nL rt d q L (.int r :: st) M Rt) : xX own cc nL rt d pc L (.int l1 :: .int l0 :: st) M Rt :=
  x_callS_i (n := 2) (As := [.int l0, .int l1]) hd q hq w1 kw3_121 kw1_15 kw3_122 (by decide +kernel) rfl hr (by decide) hst _ rfl (cJ9_floorDiv_7cf53_ h) (fun r N hN => by obtain ⟨rfl, hN⟩ := hN; exact k r hN)
def FX2_usual (Q : Int32 → Prop) (l0 : Int32) (l1 : Nat) (l2 : Int32) (M : Mem) : Prop :=
  FX9_isSaint (fun (r1 : Bool) => ((r1 = true → ((l0 = 0 → vp_in l2 14 ∧ Q (1 + ((M (l1 + 7) (ix l2)) / 20))) ∧ (l0 = 1 → vp_in l2 14 ∧ FJ9_max_7cf53 (fun (r2 : Int32) => vp_in l2 14 ∧ FJ9_max_7cf53 (fun (r3 : Int32) => Q ((r2 * 5) + (r3 * 20))) 0 ((M (l1 + 7) (ix l2)) - 80) M) 0 ((M (l1 + 4) (ix l2)) - 70) M) ∧ (¬ l0 = 0 → ¬ l0 = 1 → FX9_doctrineAbove (fun (r4 : Int32) => vp_in l2 14 ∧ FJ9_floorDiv_7cf53 (fun (r5 : Int32) => Q r5) (r4 - (M (l1 + 6) (ix l2))) 4 M) l1 l2 M))) ∧ (r1 = false → Q 0))) l1 l2 M
theorem eX2_usual {Q : Int32 → Prop} {l0 : Int32} {l1 : Nat} {l2 : Int32} {M : Mem} (hk_l1 : SHk l1 = 9) (h : FX2_usual Q l0 l1 l2 M) : xX RX2 cX2_usual 3 (some .int) 2 0 [(0, .int l0), (1, .ref l1), (2, .int l2)] [] M (xQi (xP M Q)) := by
  unfold FX2_usual at h
  refine x_aload_n dX2_usual_0 rfl 1 rfl ?_
  refine x_iload_n dX2_usual_1 rfl 2 rfl ?_
  refine kX9_isSaint dX2_usual_2 5 rfl hk_l1 kw3_91 (Nat.le_of_ble_eq_true rfl) (Nat.le_of_ble_eq_true rfl) h (fun r1 h => ?_)
  refine x_if_ne_b dX2_usual_5 10 8 rfl rfl (fun hc => ?_) (fun hc => ?_)
  · have h := h.1 hc
    refine x_iload_n dX2_usual_10 rfl 11 rfl ?_
    by_cases hc0 : l0 = 0
    · refine x_lookup (off := 25) dX2_usual_11 (by decide) (by rw [hc0]; first | done | rfl) (tg := 36) rfl ?_
      have h := h.1 hc0
      refine x_iconst dX2_usual_36 kc_1 37 rfl ?_
      refine x_aload_n dX2_usual_37 rfl 38 rfl ?_
      refine gf9_7 dX2_usual_38 41 rfl hk_l1 kw1_64 ?_
      refine x_iload_n dX2_usual_41 rfl 42 rfl ?_
      obtain ⟨hin, h⟩ := h
      refine x_iaload dX2_usual_42 (ly9_7 hk_l1) hin 43 rfl ?_
      refine x_bipush dX2_usual_43 kb_20 45 rfl ?_
      refine x_idiv dX2_usual_45 (by decide) 46 rfl ?_
      refine x_iadd dX2_usual_46 47 rfl ?_
      exact x_iret dX2_usual_47 ⟨rfl, h⟩
    by_cases hc1 : l0 = 1
    · refine x_lookup (off := 37) dX2_usual_11 (by decide) (by rw [hc1]; first | done | rfl) (tg := 48) rfl ?_
      have h := h.2.1 hc1
      refine x_iconst dX2_usual_48 kc_0 49 rfl ?_
      refine x_aload_n dX2_usual_49 rfl 50 rfl ?_
      refine gf9_4 dX2_usual_50 53 rfl hk_l1 kw1_57 ?_
      refine x_iload_n dX2_usual_53 rfl 54 rfl ?_
      obtain ⟨hin, h⟩ := h
      refine x_iaload dX2_usual_54 (ly9_4 hk_l1) hin 55 rfl ?_
      refine x_bipush dX2_usual_55 kb_70 57 rfl ?_
      refine x_isub dX2_usual_57 58 rfl ?_
      refine kJ9_max_7cf53 dX2_usual_58 61 rfl kw3_96 (Nat.le_of_ble_eq_true rfl) (Nat.le_of_ble_eq_true rfl) h (fun r2 h => ?_)
      refine x_iconst dX2_usual_61 kc_5 62 rfl ?_
      refine x_imul dX2_usual_62 63 rfl ?_
      refine x_iconst dX2_usual_63 kc_0 64 rfl ?_
      refine x_aload_n dX2_usual_64 rfl 65 rfl ?_
      refine gf9_7 dX2_usual_65 68 rfl hk_l1 kw1_64 ?_
      refine x_iload_n dX2_usual_68 rfl 69 rfl ?_
      obtain ⟨hin, h⟩ := h
      refine x_iaload dX2_usual_69 (ly9_7 hk_l1) hin 70 rfl ?_
      refine x_bipush dX2_usual_70 kb_80 72 rfl ?_
      refine x_isub dX2_usual_72 73 rfl ?_
      refine kJ9_max_7cf53 dX2_usual_73 76 rfl kw3_96 (Nat.le_of_ble_eq_true rfl) (Nat.le_of_ble_eq_true rfl) h (fun r3 h => ?_)
      refine x_bipush dX2_usual_76 kb_20 78 rfl ?_
      refine x_imul dX2_usual_78 79 rfl ?_
      refine x_iadd dX2_usual_79 80 rfl ?_
      exact x_iret dX2_usual_80 ⟨rfl, h⟩
    have h := h.2.2 hc0 hc1
    refine x_lookup (off := 70) dX2_usual_11 (by decide) (by rw [lv_osw (k := 0) hc0 (by decide), lv_osw (k := 1) hc1 (by decide)]; first | done | rfl) (tg := 81) rfl ?_
    refine x_aload_n dX2_usual_81 rfl 82 rfl ?_
    refine x_iload_n dX2_usual_82 rfl 83 rfl ?_
    refine kX9_doctrineAbove dX2_usual_83 86 rfl hk_l1 kw3_103 (Nat.le_of_ble_eq_true rfl) (Nat.le_of_ble_eq_true rfl) h (fun r4 h => ?_)
    refine x_aload_n dX2_usual_86 rfl 87 rfl ?_
    refine gf9_6 dX2_usual_87 90 rfl hk_l1 kw1_62 ?_
    refine x_iload_n dX2_usual_90 rfl 91 rfl ?_
    obtain ⟨hin, h⟩ := h
    refine x_iaload dX2_usual_91 (ly9_6 hk_l1) hin 92 rfl ?_
    refine x_isub dX2_usual_92 93 rfl ?_
    refine x_iconst dX2_usual_93 kc_4 94 rfl ?_
    refine kJ9_floorDiv_7cf53 dX2_usual_94 97 rfl kw3_120 (Nat.le_of_ble_eq_true rfl) (Nat.le_of_ble_eq_true rfl) h (fun r5 h => ?_)
    exact x_iret dX2_usual_97 ⟨rfl, h⟩
  · have h := h.2 hc
    refine x_iconst dX2_usual_8 kc_0 9 rfl ?_
    exact x_iret dX2_usual_9 ⟨rfl, h⟩
theorem cX2_usual_ {Q : Int32 → Prop} {l0 : Int32} {l1 : Nat} {l2 : Int32} {M : Mem} (hk_l1 : SHk l1 = 9) (h : FX2_usual Q l0 l1 l2 M) : xM yX2_usual cX2_usual 3 (some .int) 2 [.int l0, .ref l1, .int l2] M (xQi (xP M Q)) := xM_of (by decide +kernel) (Nat.le_of_ble_eq_true rfl) (eX2_usual hk_l1 h)
theorem kX2_usual {own : String} {cc : ByteArray} {nL : Nat} {rt : Option FieldType} {d pc ix : Nat} {L : List (Nat × Value)} {st : List Value} {M : Mem} {Rt : xGt → Array Value → State → Outcome → State → Prop} {Q : Int32 → Prop} {l0 : Int32} {l1 : Nat} {l2 : Int32} (hd : decode cc pc = .ok (.invokestatic ix, 3)) (q : Nat) (hq : pc + 3 = q) (hk_l1 : SHk l1 = 9) (w1 : Cond.methodLink own ix yX2_usual ∈ xTs) (hr : 2 < d) (hst : (st.map fun v => v.category).sum ≤ 8) (h : FX2_usual Q l0 l1 l2 M) (k : ∀ (r : Int32), Q r → xX own cc nL rt d q L (.int r :: st) M Rt) : xX own cc nL rt d pc L (.int l2 :: .ref l1 :: .int l0 :: st) M Rt :=
  x_callS_i (n := 3) (As := [.int l0, .ref l1, .int l2]) hd q hq w1 kw3_118 kw1_5 kw3_119 (by decide +kernel) rfl hr (by decide) hst _ rfl (cX2_usual_ hk_l1 h) (fun r N hN => by obtain ⟨rfl, hN⟩ := hN; exact k r hN)
def NX2_tells_73 (Q : Int32 → Mem → Prop) (l0 : Nat) (l1 : Int32) (l2 : Nat) (l3 : Int32) (l4 : Int32) (M : Mem) : Prop :=
  vp_in l4 16 ∧ vp_in l4 16 ∧ FX2_run (fun (r2 : Int32) (M1 : Mem) => FX2_bounded (fun (r3 : Int32) => Q r3 M1) l1 r2 M1) l0 (M (l0 + 3) (ix l4)) (M (l0 + 4) (ix l4)) l2 l3 M
theorem nX2_tells_73 {Q : Int32 → Mem → Prop} {l0 : Nat} {l1 : Int32} {l2 : Nat} {l3 : Int32} {l4 : Int32} {M : Mem} (hk_l0 : SHk l0 = 2) (hk_l2 : SHk l2 = 9) (h : NX2_tells_73 Q l0 l1 l2 l3 l4 M) : xX RX2 cX2_tells 5 (some .int) 4 73 [(0, .ref l0), (1, .int l1), (2, .ref l2), (3, .int l3), (4, .int l4)] [] M (xQi Q) := by
  unfold NX2_tells_73 at h
  refine x_iload_n dX2_tells_73 rfl 74 rfl ?_
  refine x_aload_n dX2_tells_74 rfl 75 rfl ?_
  refine x_aload_n dX2_tells_75 rfl 76 rfl ?_
  refine gf2_2 dX2_tells_76 79 rfl hk_l0 kw1_145 ?_
  refine x_iload dX2_tells_79 rfl 81 rfl ?_
  obtain ⟨hin, h⟩ := h
  refine x_iaload dX2_tells_81 (ly2_2 hk_l0) hin 82 rfl ?_
  refine x_aload_n dX2_tells_82 rfl 83 rfl ?_
  refine gf2_3 dX2_tells_83 86 rfl hk_l0 kw1_146 ?_
  refine x_iload dX2_tells_86 rfl 88 rfl ?_
  obtain ⟨hin, h⟩ := h
  refine x_iaload dX2_tells_88 (ly2_3 hk_l0) hin 89 rfl ?_
  refine x_aload_n dX2_tells_89 rfl 90 rfl ?_
  refine x_iload_n dX2_tells_90 rfl 91 rfl ?_
  refine kX2_run dX2_tells_91 94 rfl hk_l0 hk_l2 kw3_92 (Nat.le_of_ble_eq_true rfl) (Nat.le_of_ble_eq_true rfl) h (fun r2 M1 h => ?_)
  refine kX2_bounded dX2_tells_94 97 rfl kw3_110 (Nat.le_of_ble_eq_true rfl) (Nat.le_of_ble_eq_true rfl) h (fun r3 h => ?_)
  exact x_iret dX2_tells_97 h
def lbX2_tells_13 (Q : Int32 → Mem → Prop) (l0 : Nat) (l1 : Int32) (l2 : Nat) (l3 : Int32) (B13 : Int32 → Mem → Prop) (l4 : Int32) (M : Mem) : Prop :=
  (((M l0 7) ≤ l4 → FX2_usual (fun (r4 : Int32) => FX2_bounded (fun (r5 : Int32) => Q r5 M) l1 r4 M) l1 l2 l3 M) ∧ (¬ (M l0 7) ≤ l4 → vp_in l4 16 ∧ ((¬ (M (l0 + 2) (ix l4)) = l1 → B13 (l4 + 1) M) ∧ ((M (l0 + 2) (ix l4)) = l1 → vp_in l4 16 ∧ vp_in l4 16 ∧ (((M (l0 + 4) (ix l4)) = (M (l0 + 5) (ix l4)) → NX2_tells_73 Q l0 l1 l2 l3 l4 M) ∧ (¬ (M (l0 + 4) (ix l4)) = (M (l0 + 5) (ix l4)) → vp_in l4 16 ∧ vp_in l4 16 ∧ FX2_run (fun (r7 : Int32) (M6 : Mem) => ((r7 = 0 → B13 (l4 + 1) M6) ∧ (¬ r7 = 0 → NX2_tells_73 Q l0 l1 l2 l3 l4 M6))) l0 (M (l0 + 4) (ix l4)) (M (l0 + 5) (ix l4)) l2 l3 M))))))
def NX2_tells_13 (Q : Int32 → Mem → Prop) (l0 : Nat) (l1 : Int32) (l2 : Nat) (l3 : Int32) (l4 : Int32) (M : Mem) : Prop := xlp (fun (B : Int32 × Mem → Prop) a => lbX2_tells_13 Q l0 l1 l2 l3 (fun l4 M => B (l4, M)) a.1 a.2) (l4, M)
theorem nX2_tells_13 {Q : Int32 → Mem → Prop} {l0 : Nat} {l1 : Int32} {l2 : Nat} {l3 : Int32} {l4 : Int32} {M : Mem} (hk_l0 : SHk l0 = 2) (hk_l2 : SHk l2 = 9) (h : NX2_tells_13 Q l0 l1 l2 l3 l4 M) : xX RX2 cX2_tells 5 (some .int) 4 13 [(0, .ref l0), (1, .int l1), (2, .ref l2), (3, .int l3), (4, .int l4)] [] M (xQi Q) := by
  obtain ⟨n, h⟩ := h
  have hB13 : ∀ (n : Nat) (l4 : Int32) (M : Mem), xlpn (fun (B : Int32 × Mem → Prop) a => lbX2_tells_13 Q l0 l1 l2 l3 (fun l4 M => B (l4, M)) a.1 a.2) n (l4, M) → xX RX2 cX2_tells 5 (some .int) 4 13 [(0, .ref l0), (1, .int l1), (2, .ref l2), (3, .int l3), (4, .int l4)] [] M (xQi Q) := by
    intro n
    induction n with
    | zero => intro l4 M h; exact False.elim h
    | succ n ih =>
      intro l4 M h
      have hB13 := ih
      have h : lbX2_tells_13 Q l0 l1 l2 l3 (fun l4 M => xlpn (fun (B : Int32 × Mem → Prop) a => lbX2_tells_13 Q l0 l1 l2 l3 (fun l4 M => B (l4, M)) a.1 a.2) n (l4, M)) l4 M := h
      unfold lbX2_tells_13 at h
      refine x_iload dX2_tells_13 rfl 15 rfl ?_
      refine x_aload_n dX2_tells_15 rfl 16 rfl ?_
      refine gf2_7 dX2_tells_16 19 rfl hk_l0 kw1_150 ?_
      refine x_icmp_ge dX2_tells_19 104 22 rfl rfl (fun hc => ?_) (fun hc => ?_)
      · have h := h.1 hc
        refine x_iload_n dX2_tells_104 rfl 105 rfl ?_
        refine x_iload_n dX2_tells_105 rfl 106 rfl ?_
        refine x_aload_n dX2_tells_106 rfl 107 rfl ?_
        refine x_iload_n dX2_tells_107 rfl 108 rfl ?_
        refine kX2_usual dX2_tells_108 111 rfl hk_l2 kw3_117 (Nat.le_of_ble_eq_true rfl) (Nat.le_of_ble_eq_true rfl) h (fun r4 h => ?_)
        refine kX2_bounded dX2_tells_111 114 rfl kw3_110 (Nat.le_of_ble_eq_true rfl) (Nat.le_of_ble_eq_true rfl) h (fun r5 h => ?_)
        exact x_iret dX2_tells_114 h
      · have h := h.2 hc
        refine x_aload_n dX2_tells_22 rfl 23 rfl ?_
        refine gf2_1 dX2_tells_23 26 rfl hk_l0 kw1_144 ?_
        refine x_iload dX2_tells_26 rfl 28 rfl ?_
        obtain ⟨hin, h⟩ := h
        refine x_iaload dX2_tells_28 (ly2_1 hk_l0) hin 29 rfl ?_
        refine x_iload_n dX2_tells_29 rfl 30 rfl ?_
        refine x_icmp_ne dX2_tells_30 98 33 rfl rfl (fun hc => ?_) (fun hc => ?_)
        · have h := h.1 hc
          refine x_iinc dX2_tells_98 rfl (congrArg (l4 + ·) kc_1) (Nat.le_of_ble_eq_true rfl) [(0, .ref l0), (1, .int l1), (2, .ref l2), (3, .int l3), (4, .int (l4 + 1))] rfl 101 rfl ?_
          refine x_goto dX2_tells_101 13 rfl ?_
          exact hB13 _ _ h
        · have h := h.2 hc
          refine x_aload_n dX2_tells_33 rfl 34 rfl ?_
          refine gf2_3 dX2_tells_34 37 rfl hk_l0 kw1_146 ?_
          refine x_iload dX2_tells_37 rfl 39 rfl ?_
          obtain ⟨hin, h⟩ := h
          refine x_iaload dX2_tells_39 (ly2_3 hk_l0) hin 40 rfl ?_
          refine x_aload_n dX2_tells_40 rfl 41 rfl ?_
          refine gf2_4 dX2_tells_41 44 rfl hk_l0 kw1_147 ?_
          refine x_iload dX2_tells_44 rfl 46 rfl ?_
          obtain ⟨hin, h⟩ := h
          refine x_iaload dX2_tells_46 (ly2_4 hk_l0) hin 47 rfl ?_
          refine x_icmp_eq dX2_tells_47 73 50 rfl rfl (fun hc => ?_) (fun hc => ?_)
          · have h := h.1 hc
            exact nX2_tells_73 hk_l0 hk_l2 h
          · have h := h.2 hc
            refine x_aload_n dX2_tells_50 rfl 51 rfl ?_
            refine x_aload_n dX2_tells_51 rfl 52 rfl ?_
            refine gf2_3 dX2_tells_52 55 rfl hk_l0 kw1_146 ?_
            refine x_iload dX2_tells_55 rfl 57 rfl ?_
            obtain ⟨hin, h⟩ := h
            refine x_iaload dX2_tells_57 (ly2_3 hk_l0) hin 58 rfl ?_
            refine x_aload_n dX2_tells_58 rfl 59 rfl ?_
            refine gf2_4 dX2_tells_59 62 rfl hk_l0 kw1_147 ?_
            refine x_iload dX2_tells_62 rfl 64 rfl ?_
            obtain ⟨hin, h⟩ := h
            refine x_iaload dX2_tells_64 (ly2_4 hk_l0) hin 65 rfl ?_
            refine x_aload_n dX2_tells_65 rfl 66 rfl ?_
            refine x_iload_n dX2_tells_66 rfl 67 rfl ?_
            refine kX2_run dX2_tells_67 70 rfl hk_l0 hk_l2 kw3_92 (Nat.le_of_ble_eq_true rfl) (Nat.le_of_ble_eq_true rfl) h (fun r7 M6 h => ?_)
            refine x_if_eq dX2_tells_70 98 73 rfl rfl (fun hc => ?_) (fun hc => ?_)
            · have h := h.1 hc
              refine x_iinc dX2_tells_98 rfl (congrArg (l4 + ·) kc_1) (Nat.le_of_ble_eq_true rfl) [(0, .ref l0), (1, .int l1), (2, .ref l2), (3, .int l3), (4, .int (l4 + 1))] rfl 101 rfl ?_
              refine x_goto dX2_tells_101 13 rfl ?_
              exact hB13 _ _ h
            · have h := h.2 hc
              exact nX2_tells_73 hk_l0 hk_l2 h
  exact hB13 n l4 M h
def FX2_tells (Q : Int32 → Mem → Prop) (l0 : Nat) (l1 : Int32) (l2 : Nat) (l3 : Int32) (M : Mem) : Prop :=
  FX9_isSaint (fun (r8 : Bool) => ((r8 = true → NX2_tells_13 Q l0 l1 l2 l3 0 M) ∧ (r8 = false → Q 0 M))) l2 l3 M
theorem eX2_tells {Q : Int32 → Mem → Prop} {l0 : Nat} {l1 : Int32} {l2 : Nat} {l3 : Int32} {M : Mem} (hk_l0 : SHk l0 = 2) (hk_l2 : SHk l2 = 9) (h : FX2_tells Q l0 l1 l2 l3 M) : xX RX2 cX2_tells 5 (some .int) 4 0 [(0, .ref l0), (1, .int l1), (2, .ref l2), (3, .int l3)] [] M (xQi Q) := by
  unfold FX2_tells at h
  refine x_aload_n dX2_tells_0 rfl 1 rfl ?_
  refine x_iload_n dX2_tells_1 rfl 2 rfl ?_
  refine kX9_isSaint dX2_tells_2 5 rfl hk_l2 kw3_91 (Nat.le_of_ble_eq_true rfl) (Nat.le_of_ble_eq_true rfl) h (fun r8 h => ?_)
  refine x_if_ne_b dX2_tells_5 10 8 rfl rfl (fun hc => ?_) (fun hc => ?_)
  · have h := h.1 hc
    refine x_iconst dX2_tells_10 kc_0 11 rfl ?_
    refine x_istore dX2_tells_11 (Nat.le_of_ble_eq_true rfl) [(0, .ref l0), (1, .int l1), (2, .ref l2), (3, .int l3), (4, .int 0)] rfl 13 rfl ?_
    exact nX2_tells_13 hk_l0 hk_l2 h
  · have h := h.2 hc
    refine x_iconst dX2_tells_8 kc_0 9 rfl ?_
    exact x_iret dX2_tells_9 h
theorem cX2_tells_ {Q : Int32 → Mem → Prop} {l0 : Nat} {l1 : Int32} {l2 : Nat} {l3 : Int32} {M : Mem} (hk_l0 : SHk l0 = 2) (hk_l2 : SHk l2 = 9) (h : FX2_tells Q l0 l1 l2 l3 M) : xM yX2_tells cX2_tells 5 (some .int) 4 [.ref l0, .int l1, .ref l2, .int l3] M (xQi Q) := xM_of (by decide +kernel) (Nat.le_of_ble_eq_true rfl) (eX2_tells hk_l0 hk_l2 h)
theorem kX2_tells {own : String} {cc : ByteArray} {nL : Nat} {rt : Option FieldType} {d pc ix : Nat} {L : List (Nat × Value)} {st : List Value} {M : Mem} {Rt : xGt → Array Value → State → Outcome → State → Prop} {Q : Int32 → Mem → Prop} {l0 : Nat} {l1 : Int32} {l2 : Nat} {l3 : Int32} (hd : decode cc pc = .ok (.invokevirtual ix, 3)) (q : Nat) (hq : pc + 3 = q) (hk_l0 : SHk l0 = 2) (hk_l2 : SHk l2 = 9) (w1 : Cond.methodLink own ix yX2_tells ∈ xTs) (hr : 4 < d) (hst : (st.map fun v => v.category).sum ≤ 8) (h : FX2_tells Q l0 l1 l2 l3 M) (k : ∀ (r : Int32) (N : Mem), Q r N → xX own cc nL rt d q L (.int r :: st) N Rt) : xX own cc nL rt d pc L (.int l3 :: .ref l2 :: .int l1 :: .ref l0 :: st) M Rt :=
  x_callV_i (n := 3) (As := [.int l1, .ref l2, .int l3]) hd q hq hk_l0 (by decide) rfl rfl w1 kw3_88 kw3_89 kw1_5 kw3_90 (by decide +kernel) rfl hr (by decide) hst _ rfl (cX2_tells_ hk_l0 hk_l2 h) k
def FX9_isPillar (Q : Bool → Prop) (l0 : Nat) (l1 : Int32) (M : Mem) : Prop :=
  ((l1 < 0 → Q false) ∧ (¬ l1 < 0 → (((M l0 10) ≤ l1 → Q false) ∧ (¬ (M l0 10) ≤ l1 → Q true))))
theorem eX9_isPillar {Q : Bool → Prop} {l0 : Nat} {l1 : Int32} {M : Mem} (hk_l0 : SHk l0 = 9) (h : FX9_isPillar Q l0 l1 M) : xX RX9 cX9_isPillar 2 (some .boolean) 1 0 [(0, .ref l0), (1, .int l1)] [] M (xQb (xP M Q)) := by
  unfold FX9_isPillar at h
  refine x_iload_n dX9_isPillar_0 rfl 1 rfl ?_
  refine x_if_lt dX9_isPillar_1 16 4 rfl rfl (fun hc => ?_) (fun hc => ?_)
  · have h := h.1 hc
    refine x_iconst dX9_isPillar_16 kc_0 17 rfl ?_
    exact x_zret (z := false) dX9_isPillar_17 ⟨rfl, h⟩
  · have h := h.2 hc
    refine x_iload_n dX9_isPillar_4 rfl 5 rfl ?_
    refine x_aload_n dX9_isPillar_5 rfl 6 rfl ?_
    refine gf9_10 dX9_isPillar_6 9 rfl hk_l0 kw1_68 ?_
    refine x_icmp_ge dX9_isPillar_9 16 12 rfl rfl (fun hc => ?_) (fun hc => ?_)
    · have h := h.1 hc
      refine x_iconst dX9_isPillar_16 kc_0 17 rfl ?_
      exact x_zret (z := false) dX9_isPillar_17 ⟨rfl, h⟩
    · have h := h.2 hc
      refine x_iconst dX9_isPillar_12 kc_1 13 rfl ?_
      refine x_goto dX9_isPillar_13 17 rfl ?_
      exact x_zret (z := true) dX9_isPillar_17 ⟨rfl, h⟩
theorem cX9_isPillar_ {Q : Bool → Prop} {l0 : Nat} {l1 : Int32} {M : Mem} (hk_l0 : SHk l0 = 9) (h : FX9_isPillar Q l0 l1 M) : xM yX9_isPillar cX9_isPillar 2 (some .boolean) 1 [.ref l0, .int l1] M (xQb (xP M Q)) := xM_of (by decide +kernel) (Nat.le_of_ble_eq_true rfl) (eX9_isPillar hk_l0 h)
theorem kX9_isPillar {own : String} {cc : ByteArray} {nL : Nat} {rt : Option FieldType} {d pc ix : Nat} {L : List (Nat × Value)} {st : List Value} {M : Mem} {Rt : xGt → Array Value → State → Outcome → State → Prop} {Q : Bool → Prop} {l0 : Nat} {l1 : Int32} (hd : decode cc pc = .ok (.invokevirtual ix, 3)) (q : Nat) (hq : pc + 3 = q) (hk_l0 : SHk l0 = 9) (w1 : Cond.methodLink own ix yX9_isPillar ∈ xTs) (hr : 1 < d) (hst : (st.map fun v => v.category).sum ≤ 8) (h : FX9_isPillar Q l0 l1 M) (k : ∀ (r : Bool), Q r → xX own cc nL rt d q L (.int (bI r) :: st) M Rt) : xX own cc nL rt d pc L (.int l1 :: .ref l0 :: st) M Rt :=
  x_callV_b (n := 1) (As := [.int l1]) hd q hq hk_l0 (by decide) rfl rfl w1 kw3_14 kw3_15 kw1_3 kw3_16 (by decide +kernel) rfl hr (by decide) hst _ rfl (cX9_isPillar_ hk_l0 h) (fun r N hN => by obtain ⟨rfl, hN⟩ := hN; exact k r hN)
def FX9_sitterOn (Q : Int32 → Prop) (l0 : Nat) (l1 : Int32) (M : Mem) : Prop :=
  FX9_isPillar (fun (r1 : Bool) => ((r1 = false → Q (-1)) ∧ (r1 = true → vp_in l1 10 ∧ Q (M (l0 + 2) (ix l1))))) l0 l1 M
theorem eX9_sitterOn {Q : Int32 → Prop} {l0 : Nat} {l1 : Int32} {M : Mem} (hk_l0 : SHk l0 = 9) (h : FX9_sitterOn Q l0 l1 M) : xX RX9 cX9_sitterOn 2 (some .int) 2 0 [(0, .ref l0), (1, .int l1)] [] M (xQi (xP M Q)) := by
  unfold FX9_sitterOn at h
  refine x_aload_n dX9_sitterOn_0 rfl 1 rfl ?_
  refine x_iload_n dX9_sitterOn_1 rfl 2 rfl ?_
  refine kX9_isPillar dX9_sitterOn_2 5 rfl hk_l0 kw3_13 (Nat.le_of_ble_eq_true rfl) (Nat.le_of_ble_eq_true rfl) h (fun r1 h => ?_)
  refine x_if_eq_b dX9_sitterOn_5 17 8 rfl rfl (fun hc => ?_) (fun hc => ?_)
  · have h := h.1 hc
    refine x_iconst dX9_sitterOn_17 kc_m1 18 rfl ?_
    exact x_iret dX9_sitterOn_18 ⟨rfl, h⟩
  · have h := h.2 hc
    refine x_aload_n dX9_sitterOn_8 rfl 9 rfl ?_
    refine gf9_2 dX9_sitterOn_9 12 rfl hk_l0 kw1_50 ?_
    refine x_iload_n dX9_sitterOn_12 rfl 13 rfl ?_
    obtain ⟨hin, h⟩ := h
    refine x_iaload dX9_sitterOn_13 (ly9_2 hk_l0) hin 14 rfl ?_
    refine x_goto dX9_sitterOn_14 18 rfl ?_
    exact x_iret dX9_sitterOn_18 ⟨rfl, h⟩
theorem cX9_sitterOn_ {Q : Int32 → Prop} {l0 : Nat} {l1 : Int32} {M : Mem} (hk_l0 : SHk l0 = 9) (h : FX9_sitterOn Q l0 l1 M) : xM yX9_sitterOn cX9_sitterOn 2 (some .int) 2 [.ref l0, .int l1] M (xQi (xP M Q)) := xM_of (by decide +kernel) (Nat.le_of_ble_eq_true rfl) (eX9_sitterOn hk_l0 h)
theorem kX9_sitterOn {own : String} {cc : ByteArray} {nL : Nat} {rt : Option FieldType} {d pc ix : Nat} {L : List (Nat × Value)} {st : List Value} {M : Mem} {Rt : xGt → Array Value → State → Outcome → State → Prop} {Q : Int32 → Prop} {l0 : Nat} {l1 : Int32} (hd : decode cc pc = .ok (.invokevirtual ix, 3)) (q : Nat) (hq : pc + 3 = q) (hk_l0 : SHk l0 = 9) (w1 : Cond.methodLink own ix yX9_sitterOn ∈ xTs) (hr : 2 < d) (hst : (st.map fun v => v.category).sum ≤ 8) (h : FX9_sitterOn Q l0 l1 M) (k : ∀ (r : Int32), Q r → xX own cc nL rt d q L (.int r :: st) M Rt) : xX own cc nL rt d pc L (.int l1 :: .ref l0 :: st) M Rt :=
  x_callV_i (n := 1) (As := [.int l1]) hd q hq hk_l0 (by decide) rfl rfl w1 kw3_84 kw3_85 kw1_3 kw3_86 (by decide +kernel) rfl hr (by decide) hst _ rfl (cX9_sitterOn_ hk_l0 h) (fun r N hN => by obtain ⟨rfl, hN⟩ := hN; exact k r hN)
