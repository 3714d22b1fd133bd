def FX6_add (Q : Mem → Prop) (l0 : Nat) (l1 : Int32) (l2 : Int32) (M : Mem) : Prop :=
  ((16 ≤ (M l0 2) → Q M) ∧ (¬ 16 ≤ (M l0 2) → vp_in (M l0 2) 16 ∧ ∀ M1 : Mem, M1 = xu M (l0 + 1) (ix (M l0 2)) l1 → vp_in (M1 l0 2) 16 ∧ ∀ M2 : Mem, M2 = xu M1 (l0 + 2) (ix (M1 l0 2)) l2 → ∀ M3 : Mem, M3 = xu M2 l0 2 ((M2 l0 2) + 1) → Q M3))
theorem eX6_add {Q : Mem → Prop} {l0 : Nat} {l1 : Int32} {l2 : Int32} {M : Mem} (hk_l0 : SHk l0 = 6) (h : FX6_add Q l0 l1 l2 M) : xX RX6 cX6_add 3 none 1 0 [(0, .ref l0), (1, .int l1), (2, .int l2)] [] M (xQv Q) := by
  unfold FX6_add at h
  refine x_aload_n dX6_add_0 rfl 1 rfl ?_
  refine gf6_2 dX6_add_1 4 rfl hk_l0 kw1_177 ?_
  refine x_bipush dX6_add_4 kb_16 6 rfl ?_
  refine x_icmp_ge dX6_add_6 39 9 rfl rfl (fun hc => ?_) (fun hc => ?_)
  · have h := h.1 hc
    exact x_vret dX6_add_39 h
  · have h := h.2 hc
    refine x_aload_n dX6_add_9 rfl 10 rfl ?_
    refine gf6_0 dX6_add_10 13 rfl hk_l0 kw1_175 ?_
    refine x_aload_n dX6_add_13 rfl 14 rfl ?_
    refine gf6_2 dX6_add_14 17 rfl hk_l0 kw1_177 ?_
    refine x_iload_n dX6_add_17 rfl 18 rfl ?_
    obtain ⟨hin, h⟩ := h
    refine x_iastore dX6_add_18 (ly6_0 hk_l0) hin 19 rfl (x_mem (fun M1 hM1 => ?_))
    have h := h M1 hM1
    refine x_aload_n dX6_add_19 rfl 20 rfl ?_
    refine gf6_1 dX6_add_20 23 rfl hk_l0 kw1_176 ?_
    refine x_aload_n dX6_add_23 rfl 24 rfl ?_
    refine gf6_2 dX6_add_24 27 rfl hk_l0 kw1_177 ?_
    refine x_iload_n dX6_add_27 rfl 28 rfl ?_
    obtain ⟨hin, h⟩ := h
    refine x_iastore dX6_add_28 (ly6_1 hk_l0) hin 29 rfl (x_mem (fun M2 hM2 => ?_))
    have h := h M2 hM2
    refine x_aload_n dX6_add_29 rfl 30 rfl ?_
    refine x_dup dX6_add_30 rfl 31 rfl ?_
    refine gf6_2 dX6_add_31 34 rfl hk_l0 kw1_177 ?_
    refine x_iconst dX6_add_34 kc_1 35 rfl ?_
    refine x_iadd dX6_add_35 36 rfl ?_
    refine pf6_2 dX6_add_36 39 rfl hk_l0 kw1_177 (x_mem (fun M3 hM3 => ?_))
    have h := h M3 hM3
    exact x_vret dX6_add_39 h
theorem cX6_add_ {Q : Mem → Prop} {l0 : Nat} {l1 : Int32} {l2 : Int32} {M : Mem} (hk_l0 : SHk l0 = 6) (h : FX6_add Q l0 l1 l2 M) : xM yX6_add cX6_add 3 none 1 [.ref l0, .int l1, .int l2] M (xQv Q) := xM_of (by decide +kernel) (Nat.le_of_ble_eq_true rfl) (eX6_add hk_l0 h)
theorem kX6_add {own : String} {cc : ByteArray} {nL : Nat} {rt : Option FieldType} {d pc ix : Nat} {L : List (Nat × Value)} {st : List Value} {M : Mem} {Rt : xGt → Array Value → State → Outcome → State → Prop} {Q : Mem → Prop} {l0 : Nat} {l1 : Int32} {l2 : Int32} (hd : decode cc pc = .ok (.invokevirtual ix, 3)) (q : Nat) (hq : pc + 3 = q) (hk_l0 : SHk l0 = 6) (w1 : Cond.methodLink own ix yX6_add ∈ xTs) (hr : 1 < d) (hst : (st.map fun v => v.category).sum ≤ 8) (h : FX6_add Q l0 l1 l2 M) (k : ∀ (N : Mem), Q N → xX own cc nL rt d q L st N Rt) : xX own cc nL rt d pc L (.int l2 :: .int l1 :: .ref l0 :: st) M Rt :=
  x_callV_v (n := 2) (As := [.int l1, .int l2]) hd q hq hk_l0 (by decide) rfl rfl w1 kw4_109 kw4_110 kw1_6 kw4_111 (by decide +kernel) rfl hr (by decide) hst _ rfl (cX6_add_ hk_l0 h) k
def FX5_skyLine (Q : Bool → Mem → Prop) (l0 : Nat) (M : Mem) : Prop :=
  FX5_begin (fun (r2 : Bool) (M1 : Mem) => ((r2 = false → Q false M1) ∧ (r2 = true → FX5_number (fun (r4 : Bool) (M3 : Mem) => ((r4 = true → FX5_take (fun (r6 : Bool) (M5 : Mem) => ((r6 = false → Q false M5) ∧ (r6 = true → FX5_number (fun (r8 : Bool) (M7 : Mem) => ((r8 = true → FX6_add (fun (M9 : Mem) => FX5_take (fun (r11 : Bool) (M10 : Mem) => Q r11 M10) l0 59 M9) (l0 + 8) (M3 l0 6) (M7 l0 6) M7) ∧ (r8 = false → Q false M7))) l0 0 9 M5))) l0 301 M3) ∧ (r4 = false → Q false M3))) l0 0 999 M1))) l0 0 M
theorem eX5_skyLine {Q : Bool → Mem → Prop} {l0 : Nat} {M : Mem} (hk_l0 : SHk l0 = 5) (h : FX5_skyLine Q l0 M) : xX RX5 cX5_skyLine 2 (some .boolean) 4 0 [(0, .ref l0)] [] M (xQb Q) := by
  unfold FX5_skyLine at h
  refine x_aload_n dX5_skyLine_0 rfl 1 rfl ?_
  refine x_iconst dX5_skyLine_1 kc_0 2 rfl ?_
  refine kX5_begin dX5_skyLine_2 5 rfl hk_l0 kw4_52 (Nat.le_of_ble_eq_true rfl) (Nat.le_of_ble_eq_true rfl) h (fun r2 M1 h => ?_)
  refine x_if_eq_b dX5_skyLine_5 19 8 rfl rfl (fun hc => ?_) (fun hc => ?_)
  · have h := h.1 hc
    refine x_iconst dX5_skyLine_19 kc_0 20 rfl ?_
    exact x_zret (z := false) dX5_skyLine_20 h
  · have h := h.2 hc
    refine x_aload_n dX5_skyLine_8 rfl 9 rfl ?_
    refine x_iconst dX5_skyLine_9 kc_0 10 rfl ?_
    refine x_sipush dX5_skyLine_10 kh_999 13 rfl ?_
    refine kX5_number dX5_skyLine_13 16 rfl hk_l0 kw4_80 (Nat.le_of_ble_eq_true rfl) (Nat.le_of_ble_eq_true rfl) h (fun r4 M3 h => ?_)
    refine x_if_ne_b dX5_skyLine_16 21 19 rfl rfl (fun hc => ?_) (fun hc => ?_)
    · have h := h.1 hc
      refine x_aload_n dX5_skyLine_21 rfl 22 rfl ?_
      refine gf5_6 dX5_skyLine_22 25 rfl hk_l0 kw2_100 ?_
      refine x_istore_n dX5_skyLine_25 (Nat.le_of_ble_eq_true rfl) [(0, .ref l0), (1, .int (M3 l0 6))] rfl 26 rfl ?_
      refine x_aload_n dX5_skyLine_26 rfl 27 rfl ?_
      refine x_sipush dX5_skyLine_27 kh_301 30 rfl ?_
      refine kX5_take dX5_skyLine_30 33 rfl hk_l0 kw4_96 (Nat.le_of_ble_eq_true rfl) (Nat.le_of_ble_eq_true rfl) h (fun r6 M5 h => ?_)
      refine x_if_eq_b dX5_skyLine_33 46 36 rfl rfl (fun hc => ?_) (fun hc => ?_)
      · have h := h.1 hc
        refine x_iconst dX5_skyLine_46 kc_0 47 rfl ?_
        exact x_zret (z := false) dX5_skyLine_47 h
      · have h := h.2 hc
        refine x_aload_n dX5_skyLine_36 rfl 37 rfl ?_
        refine x_iconst dX5_skyLine_37 kc_0 38 rfl ?_
        refine x_bipush dX5_skyLine_38 kb_9 40 rfl ?_
        refine kX5_number dX5_skyLine_40 43 rfl hk_l0 kw4_80 (Nat.le_of_ble_eq_true rfl) (Nat.le_of_ble_eq_true rfl) h (fun r8 M7 h => ?_)
        refine x_if_ne_b dX5_skyLine_43 48 46 rfl rfl (fun hc => ?_) (fun hc => ?_)
        · have h := h.1 hc
          refine x_aload_n dX5_skyLine_48 rfl 49 rfl ?_
          refine gf5_1 dX5_skyLine_49 52 rfl hk_l0 kw2_92 ?_
          refine x_iload_n dX5_skyLine_52 rfl 53 rfl ?_
          refine x_aload_n dX5_skyLine_53 rfl 54 rfl ?_
          refine gf5_6 dX5_skyLine_54 57 rfl hk_l0 kw2_100 ?_
          refine kX6_add dX5_skyLine_57 60 rfl (ly5_1 hk_l0).1 kw4_108 (Nat.le_of_ble_eq_true rfl) (Nat.le_of_ble_eq_true rfl) h (fun M9 h => ?_)
          refine x_aload_n dX5_skyLine_60 rfl 61 rfl ?_
          refine x_bipush dX5_skyLine_61 kb_59 63 rfl ?_
          refine kX5_take dX5_skyLine_63 66 rfl hk_l0 kw4_96 (Nat.le_of_ble_eq_true rfl) (Nat.le_of_ble_eq_true rfl) h (fun r11 M10 h => ?_)
          exact x_zret dX5_skyLine_66 h
        · have h := h.2 hc
          refine x_iconst dX5_skyLine_46 kc_0 47 rfl ?_
          exact x_zret (z := false) dX5_skyLine_47 h
    · have h := h.2 hc
      refine x_iconst dX5_skyLine_19 kc_0 20 rfl ?_
      exact x_zret (z := false) dX5_skyLine_20 h
theorem cX5_skyLine_ {Q : Bool → Mem → Prop} {l0 : Nat} {M : Mem} (hk_l0 : SHk l0 = 5) (h : FX5_skyLine Q l0 M) : xM yX5_skyLine cX5_skyLine 2 (some .boolean) 4 [.ref l0] M (xQb Q) := xM_of (by decide +kernel) (Nat.le_of_ble_eq_true rfl) (eX5_skyLine hk_l0 h)
theorem kX5_skyLine {own : String} {cc : ByteArray} {nL : Nat} {rt : Option FieldType} {d pc ix : Nat} {L : List (Nat × Value)} {st : List Value} {M : Mem} {Rt : xGt → Array Value → State → Outcome → State → Prop} {Q : Bool → Mem → Prop} {l0 : Nat} (hd : decode cc pc = .ok (.invokevirtual ix, 3)) (q : Nat) (hq : pc + 3 = q) (hk_l0 : SHk l0 = 5) (w1 : Cond.methodLink own ix yX5_skyLine ∈ xTs) (hr : 4 < d) (hst : (st.map fun v => v.category).sum ≤ 8) (h : FX5_skyLine Q l0 M) (k : ∀ (r : Bool) (N : Mem), Q r N → xX own cc nL rt d q L (.int (bI r) :: st) N Rt) : xX own cc nL rt d pc L (.ref l0 :: st) M Rt :=
  x_callV_b (n := 0) (As := []) hd q hq hk_l0 (by decide) rfl rfl w1 kw4_106 ks2_9 kw1_11 kw4_107 (by decide +kernel) rfl hr (by decide) hst _ rfl (cX5_skyLine_ hk_l0 h) k
def FX7_add (Q : Mem → Prop) (l0 : Nat) (l1 : Int32) (l2 : Int32) (M : Mem) : Prop :=
  ((16 ≤ (M l0 2) → Q M) ∧ (¬ 16 ≤ (M l0 2) → vp_in (M l0 2) 16 ∧ ∀ M1 : Mem, M1 = xu M (l0 + 1) (ix (M l0 2)) l1 → vp_in (M1 l0 2) 16 ∧ ∀ M2 : Mem, M2 = xu M1 (l0 + 2) (ix (M1 l0 2)) l2 → ∀ M3 : Mem, M3 = xu M2 l0 2 ((M2 l0 2) + 1) → Q M3))
theorem eX7_add {Q : Mem → Prop} {l0 : Nat} {l1 : Int32} {l2 : Int32} {M : Mem} (hk_l0 : SHk l0 = 7) (h : FX7_add Q l0 l1 l2 M) : xX RX7 cX7_add 3 none 1 0 [(0, .ref l0), (1, .int l1), (2, .int l2)] [] M (xQv Q) := by
  unfold FX7_add at h
  refine x_aload_n dX7_add_0 rfl 1 rfl ?_
  refine gf7_2 dX7_add_1 4 rfl hk_l0 kw1_219 ?_
  refine x_bipush dX7_add_4 kb_16 6 rfl ?_
  refine x_icmp_ge dX7_add_6 39 9 rfl rfl (fun hc => ?_) (fun hc => ?_)
  · have h := h.1 hc
    exact x_vret dX7_add_39 h
  · have h := h.2 hc
    refine x_aload_n dX7_add_9 rfl 10 rfl ?_
    refine gf7_0 dX7_add_10 13 rfl hk_l0 kw1_217 ?_
    refine x_aload_n dX7_add_13 rfl 14 rfl ?_
    refine gf7_2 dX7_add_14 17 rfl hk_l0 kw1_219 ?_
    refine x_iload_n dX7_add_17 rfl 18 rfl ?_
    obtain ⟨hin, h⟩ := h
    refine x_iastore dX7_add_18 (ly7_0 hk_l0) hin 19 rfl (x_mem (fun M1 hM1 => ?_))
    have h := h M1 hM1
    refine x_aload_n dX7_add_19 rfl 20 rfl ?_
    refine gf7_1 dX7_add_20 23 rfl hk_l0 kw1_218 ?_
    refine x_aload_n dX7_add_23 rfl 24 rfl ?_
    refine gf7_2 dX7_add_24 27 rfl hk_l0 kw1_219 ?_
    refine x_iload_n dX7_add_27 rfl 28 rfl ?_
    obtain ⟨hin, h⟩ := h
    refine x_iastore dX7_add_28 (ly7_1 hk_l0) hin 29 rfl (x_mem (fun M2 hM2 => ?_))
    have h := h M2 hM2
    refine x_aload_n dX7_add_29 rfl 30 rfl ?_
    refine x_dup dX7_add_30 rfl 31 rfl ?_
    refine gf7_2 dX7_add_31 34 rfl hk_l0 kw1_219 ?_
    refine x_iconst dX7_add_34 kc_1 35 rfl ?_
    refine x_iadd dX7_add_35 36 rfl ?_
    refine pf7_2 dX7_add_36 39 rfl hk_l0 kw1_219 (x_mem (fun M3 hM3 => ?_))
    have h := h M3 hM3
    exact x_vret dX7_add_39 h
theorem cX7_add_ {Q : Mem → Prop} {l0 : Nat} {l1 : Int32} {l2 : Int32} {M : Mem} (hk_l0 : SHk l0 = 7) (h : FX7_add Q l0 l1 l2 M) : xM yX7_add cX7_add 3 none 1 [.ref l0, .int l1, .int l2] M (xQv Q) := xM_of (by decide +kernel) (Nat.le_of_ble_eq_true rfl) (eX7_add hk_l0 h)
theorem kX7_add {own : String} {cc : ByteArray} {nL : Nat} {rt : Option FieldType} {d pc ix : Nat} {L : List (Nat × Value)} {st : List Value} {M : Mem} {Rt : xGt → Array Value → State → Outcome → State → Prop} {Q : Mem → Prop} {l0 : Nat} {l1 : Int32} {l2 : Int32} (hd : decode cc pc = .ok (.invokevirtual ix, 3)) (q : Nat) (hq : pc + 3 = q) (hk_l0 : SHk l0 = 7) (w1 : Cond.methodLink own ix yX7_add ∈ xTs) (hr : 1 < d) (hst : (st.map fun v => v.category).sum ≤ 8) (h : FX7_add Q l0 l1 l2 M) (k : ∀ (N : Mem), Q N → xX own cc nL rt d q L st N Rt) : xX own cc nL rt d pc L (.int l2 :: .int l1 :: .ref l0 :: st) M Rt :=
  x_callV_v (n := 2) (As := [.int l1, .int l2]) hd q hq hk_l0 (by decide) rfl rfl w1 kw4_125 kw4_126 kw1_8 kw4_127 (by decide +kernel) rfl hr (by decide) hst _ rfl (cX7_add_ hk_l0 h) k
def NX5_tenetLine_107 (Q : Bool → Mem → Prop) (l0 : Nat) (l1 : Int32) (M : Mem) : Prop :=
  FX5_take (fun (r2 : Bool) (M1 : Mem) => ((r2 = false → Q false M1) ∧ (r2 = true → FX5_number (fun (r4 : Bool) (M3 : Mem) => ((r4 = true → FX7_add (fun (M5 : Mem) => FX5_take (fun (r7 : Bool) (M6 : Mem) => Q r7 M6) l0 59 M5) (l0 + 16) l1 ((1 : Int32) <<< ((M3 l0 6) &&& 31)) M3) ∧ (r4 = false → Q false M3))) l0 0 15 M1))) l0 301 M
theorem nX5_tenetLine_107 {Q : Bool → Mem → Prop} {l0 : Nat} {l1 : Int32} {M : Mem} (hk_l0 : SHk l0 = 5) (h : NX5_tenetLine_107 Q l0 l1 M) : xX RX5 cX5_tenetLine 3 (some .boolean) 3 107 [(0, .ref l0), (1, .int l1)] [] M (xQb Q) := by
  unfold NX5_tenetLine_107 at h
  refine x_aload_n dX5_tenetLine_107 rfl 108 rfl ?_
  refine x_sipush dX5_tenetLine_108 kh_301 111 rfl ?_
  refine kX5_take dX5_tenetLine_111 114 rfl hk_l0 kw4_96 (Nat.le_of_ble_eq_true rfl) (Nat.le_of_ble_eq_true rfl) h (fun r2 M1 h => ?_)
  refine x_if_eq_b dX5_tenetLine_114 127 117 rfl rfl (fun hc => ?_) (fun hc => ?_)
  · have h := h.1 hc
    refine x_iconst dX5_tenetLine_127 kc_0 128 rfl ?_
    exact x_zret (z := false) dX5_tenetLine_128 h
  · have h := h.2 hc
    refine x_aload_n dX5_tenetLine_117 rfl 118 rfl ?_
    refine x_iconst dX5_tenetLine_118 kc_0 119 rfl ?_
    refine x_bipush dX5_tenetLine_119 kb_15 121 rfl ?_
    refine kX5_number dX5_tenetLine_121 124 rfl hk_l0 kw4_80 (Nat.le_of_ble_eq_true rfl) (Nat.le_of_ble_eq_true rfl) h (fun r4 M3 h => ?_)
    refine x_if_ne_b dX5_tenetLine_124 129 127 rfl rfl (fun hc => ?_) (fun hc => ?_)
    · have h := h.1 hc
      refine x_aload_n dX5_tenetLine_129 rfl 130 rfl ?_
      refine gf5_3 dX5_tenetLine_130 133 rfl hk_l0 kw2_96 ?_
      refine x_iload_n dX5_tenetLine_133 rfl 134 rfl ?_
      refine x_iconst dX5_tenetLine_134 kc_1 135 rfl ?_
      refine x_aload_n dX5_tenetLine_135 rfl 136 rfl ?_
      refine gf5_6 dX5_tenetLine_136 139 rfl hk_l0 kw2_100 ?_
      refine x_ishl dX5_tenetLine_139 140 rfl ?_
      refine kX7_add dX5_tenetLine_140 143 rfl (ly5_3 hk_l0).1 kw4_124 (Nat.le_of_ble_eq_true rfl) (Nat.le_of_ble_eq_true rfl) h (fun M5 h => ?_)
      refine x_aload_n dX5_tenetLine_143 rfl 144 rfl ?_
      refine x_bipush dX5_tenetLine_144 kb_59 146 rfl ?_
      refine kX5_take dX5_tenetLine_146 149 rfl hk_l0 kw4_96 (Nat.le_of_ble_eq_true rfl) (Nat.le_of_ble_eq_true rfl) h (fun r7 M6 h => ?_)
      exact x_zret dX5_tenetLine_149 h
    · have h := h.2 hc
      refine x_iconst dX5_tenetLine_127 kc_0 128 rfl ?_
      exact x_zret (z := false) dX5_tenetLine_128 h
def lbX5_tenetLine_55 (Q : Bool → Mem → Prop) (l0 : Nat) (B55 : Int32 → Int32 → Mem → Prop) (l1 : Int32) (l2 : Int32) (M : Mem) : Prop :=
  ((400 ≤ l2 → NX5_tenetLine_107 Q l0 l1 M) ∧ (¬ 400 ≤ l2 → FX5_isWord (fun (r8 : Bool) => ((r8 = false → NX5_tenetLine_107 Q l0 l1 M) ∧ (r8 = true → ∀ M9 : Mem, M9 = xu M l0 5 ((M l0 5) + 1) → FX5_number (fun (r11 : Bool) (M10 : Mem) => ((r11 = true → ∀ y12 : Int32, y12 = l1 ||| ((1 : Int32) <<< ((M10 l0 6) &&& 31)) → B55 y12 (l2 + 1) M10) ∧ (r11 = false → Q false M10))) l0 0 15 M9))) l0 0 M))
def NX5_tenetLine_55 (Q : Bool → Mem → Prop) (l0 : Nat) (l1 : Int32) (l2 : Int32) (M : Mem) : Prop := xlp (fun (B : Int32 × Int32 × Mem → Prop) a => lbX5_tenetLine_55 Q l0 (fun l1 l2 M => B (l1, l2, M)) a.1 a.2.1 a.2.2) (l1, l2, M)
theorem nX5_tenetLine_55 {Q : Bool → Mem → Prop} {l0 : Nat} {l1 : Int32} {l2 : Int32} {M : Mem} (hk_l0 : SHk l0 = 5) (h : NX5_tenetLine_55 Q l0 l1 l2 M) : xX RX5 cX5_tenetLine 3 (some .boolean) 3 55 [(0, .ref l0), (1, .int l1), (2, .int l2)] [] M (xQb Q) := by
  obtain ⟨n, h⟩ := h
  have hB55 : ∀ (n : Nat) (l1 : Int32) (l2 : Int32) (M : Mem), xlpn (fun (B : Int32 × Int32 × Mem → Prop) a => lbX5_tenetLine_55 Q l0 (fun l1 l2 M => B (l1, l2, M)) a.1 a.2.1 a.2.2) n (l1, l2, M) → xX RX5 cX5_tenetLine 3 (some .boolean) 3 55 [(0, .ref l0), (1, .int l1), (2, .int l2)] [] M (xQb Q) := by
    intro n
    induction n with
    | zero => intro l1 l2 M h; exact False.elim h
    | succ n ih =>
      intro l1 l2 M h
      have hB55 := ih
      have h : lbX5_tenetLine_55 Q l0 (fun l1 l2 M => xlpn (fun (B : Int32 × Int32 × Mem → Prop) a => lbX5_tenetLine_55 Q l0 (fun l1 l2 M => B (l1, l2, M)) a.1 a.2.1 a.2.2) n (l1, l2, M)) l1 l2 M := h
      unfold lbX5_tenetLine_55 at h
      refine x_iload_n dX5_tenetLine_55 rfl 56 rfl ?_
      refine x_sipush dX5_tenetLine_56 kh_400 59 rfl ?_
      refine x_icmp_ge dX5_tenetLine_59 107 62 rfl rfl (fun hc => ?_) (fun hc => ?_)
      · have h := h.1 hc
        refine x_weak [(0, .ref l0), (1, .int l1)] [0, 1] rfl ?_
        exact nX5_tenetLine_107 hk_l0 h
      · have h := h.2 hc
        refine x_aload_n dX5_tenetLine_62 rfl 63 rfl ?_
        refine x_iconst dX5_tenetLine_63 kc_0 64 rfl ?_
        refine kX5_isWord dX5_tenetLine_64 67 rfl hk_l0 kw4_48 (Nat.le_of_ble_eq_true rfl) (Nat.le_of_ble_eq_true rfl) h (fun r8 h => ?_)
        refine x_if_eq_b dX5_tenetLine_67 107 70 rfl rfl (fun hc => ?_) (fun hc => ?_)
        · have h := h.1 hc
          refine x_weak [(0, .ref l0), (1, .int l1)] [0, 1] rfl ?_
          exact nX5_tenetLine_107 hk_l0 h
        · have h := h.2 hc
          refine x_aload_n dX5_tenetLine_70 rfl 71 rfl ?_
          refine x_dup dX5_tenetLine_71 rfl 72 rfl ?_
          refine gf5_5 dX5_tenetLine_72 75 rfl hk_l0 kw2_99 ?_
          refine x_iconst dX5_tenetLine_75 kc_1 76 rfl ?_
          refine x_iadd dX5_tenetLine_76 77 rfl ?_
          refine pf5_5 dX5_tenetLine_77 80 rfl hk_l0 kw2_99 (x_mem (fun M9 hM9 => ?_))
          have h := h M9 hM9
          refine x_aload_n dX5_tenetLine_80 rfl 81 rfl ?_
          refine x_iconst dX5_tenetLine_81 kc_0 82 rfl ?_
          refine x_bipush dX5_tenetLine_82 kb_15 84 rfl ?_
          refine kX5_number dX5_tenetLine_84 87 rfl hk_l0 kw4_80 (Nat.le_of_ble_eq_true rfl) (Nat.le_of_ble_eq_true rfl) h (fun r11 M10 h => ?_)
          refine x_if_ne_b dX5_tenetLine_87 92 90 rfl rfl (fun hc => ?_) (fun hc => ?_)
          · have h := h.1 hc
            refine x_iload_n dX5_tenetLine_92 rfl 93 rfl ?_
            refine x_iconst dX5_tenetLine_93 kc_1 94 rfl ?_
            refine x_aload_n dX5_tenetLine_94 rfl 95 rfl ?_
            refine gf5_6 dX5_tenetLine_95 98 rfl hk_l0 kw2_100 ?_
            refine x_ishl dX5_tenetLine_98 99 rfl ?_
            refine x_ior dX5_tenetLine_99 100 rfl ?_
            refine x_top (fun y12 hy12 => ?_)
            have h := h y12 hy12
            refine x_istore_n dX5_tenetLine_100 (Nat.le_of_ble_eq_true rfl) [(0, .ref l0), (1, .int y12), (2, .int l2)] rfl 101 rfl ?_
            refine x_iinc dX5_tenetLine_101 rfl (congrArg (l2 + ·) kc_1) (Nat.le_of_ble_eq_true rfl) [(0, .ref l0), (1, .int y12), (2, .int (l2 + 1))] rfl 104 rfl ?_
            refine x_goto dX5_tenetLine_104 55 rfl ?_
            exact hB55 _ _ _ h
          · have h := h.2 hc
            refine x_iconst dX5_tenetLine_90 kc_0 91 rfl ?_
            exact x_zret (z := false) dX5_tenetLine_91 h
  exact hB55 n l1 l2 M h
def NX5_tenetLine_34 (Q : Bool → Mem → Prop) (l0 : Nat) (M : Mem) : Prop :=
  FX5_number (fun (r14 : Bool) (M13 : Mem) => ((r14 = true → ∀ y15 : Int32, y15 = (1 : Int32) <<< ((M13 l0 6) &&& 31) → NX5_tenetLine_55 Q l0 y15 0 M13) ∧ (r14 = false → Q false M13))) l0 0 15 M
theorem nX5_tenetLine_34 {Q : Bool → Mem → Prop} {l0 : Nat} {M : Mem} (hk_l0 : SHk l0 = 5) (h : NX5_tenetLine_34 Q l0 M) : xX RX5 cX5_tenetLine 3 (some .boolean) 3 34 [(0, .ref l0)] [] M (xQb Q) := by
  unfold NX5_tenetLine_34 at h
  refine x_aload_n dX5_tenetLine_34 rfl 35 rfl ?_
  refine x_iconst dX5_tenetLine_35 kc_0 36 rfl ?_
  refine x_bipush dX5_tenetLine_36 kb_15 38 rfl ?_
  refine kX5_number dX5_tenetLine_38 41 rfl hk_l0 kw4_80 (Nat.le_of_ble_eq_true rfl) (Nat.le_of_ble_eq_true rfl) h (fun r14 M13 h => ?_)
  refine x_if_ne_b dX5_tenetLine_41 46 44 rfl rfl (fun hc => ?_) (fun hc => ?_)
  · have h := h.1 hc
    refine x_iconst dX5_tenetLine_46 kc_1 47 rfl ?_
    refine x_aload_n dX5_tenetLine_47 rfl 48 rfl ?_
    refine gf5_6 dX5_tenetLine_48 51 rfl hk_l0 kw2_100 ?_
    refine x_ishl dX5_tenetLine_51 52 rfl ?_
    refine x_top (fun y15 hy15 => ?_)
    have h := h y15 hy15
    refine x_istore_n dX5_tenetLine_52 (Nat.le_of_ble_eq_true rfl) [(0, .ref l0), (1, .int y15)] rfl 53 rfl ?_
    refine x_iconst dX5_tenetLine_53 kc_0 54 rfl ?_
    refine x_istore_n dX5_tenetLine_54 (Nat.le_of_ble_eq_true rfl) [(0, .ref l0), (1, .int y15), (2, .int 0)] rfl 55 rfl ?_
    exact nX5_tenetLine_55 hk_l0 h
  · have h := h.2 hc
    refine x_iconst dX5_tenetLine_44 kc_0 45 rfl ?_
    exact x_zret (z := false) dX5_tenetLine_45 h
def FX5_tenetLine (Q : Bool → Mem → Prop) (l0 : Nat) (M : Mem) : Prop :=
  (((M l0 7) < 16 → NX5_tenetLine_34 Q l0 M) ∧ (¬ (M l0 7) < 16 → FX5_kind (fun (r16 : Int32) => ((¬ r16 = 201 → NX5_tenetLine_34 Q l0 M) ∧ (r16 = 201 → FX5_numberHere (fun (r17 : Int32) => ((16 ≤ r17 → NX5_tenetLine_34 Q l0 M) ∧ (¬ 16 ≤ r17 → FX5_refuse (fun (r19 : Bool) (M18 : Mem) => Q r19 M18) l0 3 M))) l0 M))) l0 M))
theorem eX5_tenetLine {Q : Bool → Mem → Prop} {l0 : Nat} {M : Mem} (hk_l0 : SHk l0 = 5) (h : FX5_tenetLine Q l0 M) : xX RX5 cX5_tenetLine 3 (some .boolean) 3 0 [(0, .ref l0)] [] M (xQb Q) := by
  unfold FX5_tenetLine at h
  refine x_aload_n dX5_tenetLine_0 rfl 1 rfl ?_
  refine gf5_7 dX5_tenetLine_1 4 rfl hk_l0 kw2_101 ?_
  refine x_bipush dX5_tenetLine_4 kb_16 6 rfl ?_
  refine x_icmp_lt dX5_tenetLine_6 34 9 rfl rfl (fun hc => ?_) (fun hc => ?_)
  · have h := h.1 hc
    exact nX5_tenetLine_34 hk_l0 h
  · have h := h.2 hc
    refine x_aload_n dX5_tenetLine_9 rfl 10 rfl ?_
    refine kX5_kind dX5_tenetLine_10 13 rfl hk_l0 kw4_40 (Nat.le_of_ble_eq_true rfl) (Nat.le_of_ble_eq_true rfl) h (fun r16 h => ?_)
    refine x_sipush dX5_tenetLine_13 kh_201 16 rfl ?_
    refine x_icmp_ne dX5_tenetLine_16 34 19 rfl rfl (fun hc => ?_) (fun hc => ?_)
    · have h := h.1 hc
      exact nX5_tenetLine_34 hk_l0 h
    · have h := h.2 hc
      refine x_aload_n dX5_tenetLine_19 rfl 20 rfl ?_
      refine kX5_numberHere dX5_tenetLine_20 23 rfl hk_l0 kw4_72 (Nat.le_of_ble_eq_true rfl) (Nat.le_of_ble_eq_true rfl) h (fun r17 h => ?_)
      refine x_bipush dX5_tenetLine_23 kb_16 25 rfl ?_
      refine x_icmp_ge dX5_tenetLine_25 34 28 rfl rfl (fun hc => ?_) (fun hc => ?_)
      · have h := h.1 hc
        exact nX5_tenetLine_34 hk_l0 h
      · have h := h.2 hc
        refine x_aload_n dX5_tenetLine_28 rfl 29 rfl ?_
        refine x_iconst dX5_tenetLine_29 kc_3 30 rfl ?_
        refine kX5_refuse dX5_tenetLine_30 33 rfl hk_l0 kw4_56 (Nat.le_of_ble_eq_true rfl) (Nat.le_of_ble_eq_true rfl) h (fun r19 M18 h => ?_)
        exact x_zret dX5_tenetLine_33 h
theorem cX5_tenetLine_ {Q : Bool → Mem → Prop} {l0 : Nat} {M : Mem} (hk_l0 : SHk l0 = 5) (h : FX5_tenetLine Q l0 M) : xM yX5_tenetLine cX5_tenetLine 3 (some .boolean) 3 [.ref l0] M (xQb Q) := xM_of (by decide +kernel) (Nat.le_of_ble_eq_true rfl) (eX5_tenetLine hk_l0 h)
theorem kX5_tenetLine {own : String} {cc : ByteArray} {nL : Nat} {rt : Option FieldType} {d pc ix : Nat} {L : List (Nat × Value)} {st : List Value} {M : Mem} {Rt : xGt → Array Value → State → Outcome → State → Prop} {Q : Bool → Mem → Prop} {l0 : Nat} (hd : decode cc pc = .ok (.invokevirtual ix, 3)) (q : Nat) (hq : pc + 3 = q) (hk_l0 : SHk l0 = 5) (w1 : Cond.methodLink own ix yX5_tenetLine ∈ xTs) (hr : 3 < d) (hst : (st.map fun v => v.category).sum ≤ 8) (h : FX5_tenetLine Q l0 M) (k : ∀ (r : Bool) (N : Mem), Q r N → xX own cc nL rt d q L (.int (bI r) :: st) N Rt) : xX own cc nL rt d pc L (.ref l0 :: st) M Rt :=
  x_callV_b (n := 0) (As := []) hd q hq hk_l0 (by decide) rfl rfl w1 kw4_122 ks2_11 kw1_11 kw4_123 (by decide +kernel) rfl hr (by decide) hst _ rfl (cX5_tenetLine_ hk_l0 h) k
def FX8_add (Q : Mem → Prop) (l0 : Nat) (l1 : Int32) (l2 : Int32) (l3 : Int32) (M : Mem) : Prop :=
  ((401 ≤ (M l0 3) → Q M) ∧ (¬ 401 ≤ (M l0 3) → vp_in (M l0 3) 401 ∧ ∀ M1 : Mem, M1 = xu M (l0 + 1) (ix (M l0 3)) l1 → vp_in (M1 l0 3) 401 ∧ ∀ M2 : Mem, M2 = xu M1 (l0 + 2) (ix (M1 l0 3)) l2 → vp_in (M2 l0 3) 401 ∧ ∀ M3 : Mem, M3 = xu M2 (l0 + 3) (ix (M2 l0 3)) l3 → ∀ M4 : Mem, M4 = xu M3 l0 3 ((M3 l0 3) + 1) → Q M4))
theorem eX8_add {Q : Mem → Prop} {l0 : Nat} {l1 : Int32} {l2 : Int32} {l3 : Int32} {M : Mem} (hk_l0 : SHk l0 = 8) (h : FX8_add Q l0 l1 l2 l3 M) : xX RX8 cX8_add 4 none 1 0 [(0, .ref l0), (1, .int l1), (2, .int l2), (3, .int l3)] [] M (xQv Q) := by
  unfold FX8_add at h
  refine x_aload_n dX8_add_0 rfl 1 rfl ?_
  refine gf8_3 dX8_add_1 4 rfl hk_l0 kw2_79 ?_
  refine x_aload_n dX8_add_4 rfl 5 rfl ?_
  refine gf8_0 dX8_add_5 8 rfl hk_l0 kw2_73 ?_
  refine x_alen (n := 401) dX8_add_8 (ly8_0 hk_l0) (by decide) 9 rfl ?_
  refine x_icmp_ge dX8_add_9 52 12 rfl rfl (fun hc => ?_) (fun hc => ?_)
  · have h := h.1 hc
    exact x_vret dX8_add_52 h
  · have h := h.2 hc
    refine x_aload_n dX8_add_12 rfl 13 rfl ?_
    refine gf8_0 dX8_add_13 16 rfl hk_l0 kw2_73 ?_
    refine x_aload_n dX8_add_16 rfl 17 rfl ?_
    refine gf8_3 dX8_add_17 20 rfl hk_l0 kw2_79 ?_
    refine x_iload_n dX8_add_20 rfl 21 rfl ?_
    obtain ⟨hin, h⟩ := h
    refine x_iastore dX8_add_21 (ly8_0 hk_l0) hin 22 rfl (x_mem (fun M1 hM1 => ?_))
    have h := h M1 hM1
    refine x_aload_n dX8_add_22 rfl 23 rfl ?_
    refine gf8_1 dX8_add_23 26 rfl hk_l0 kw2_75 ?_
    refine x_aload_n dX8_add_26 rfl 27 rfl ?_
    refine gf8_3 dX8_add_27 30 rfl hk_l0 kw2_79 ?_
    refine x_iload_n dX8_add_30 rfl 31 rfl ?_
    obtain ⟨hin, h⟩ := h
    refine x_iastore dX8_add_31 (ly8_1 hk_l0) hin 32 rfl (x_mem (fun M2 hM2 => ?_))
    have h := h M2 hM2
    refine x_aload_n dX8_add_32 rfl 33 rfl ?_
    refine gf8_2 dX8_add_33 36 rfl hk_l0 kw2_77 ?_
    refine x_aload_n dX8_add_36 rfl 37 rfl ?_
    refine gf8_3 dX8_add_37 40 rfl hk_l0 kw2_79 ?_
    refine x_iload_n dX8_add_40 rfl 41 rfl ?_
    obtain ⟨hin, h⟩ := h
    refine x_iastore dX8_add_41 (ly8_2 hk_l0) hin 42 rfl (x_mem (fun M3 hM3 => ?_))
    have h := h M3 hM3
    refine x_aload_n dX8_add_42 rfl 43 rfl ?_
    refine x_dup dX8_add_43 rfl 44 rfl ?_
    refine gf8_3 dX8_add_44 47 rfl hk_l0 kw2_79 ?_
    refine x_iconst dX8_add_47 kc_1 48 rfl ?_
    refine x_iadd dX8_add_48 49 rfl ?_
    refine pf8_3 dX8_add_49 52 rfl hk_l0 kw2_79 (x_mem (fun M4 hM4 => ?_))
    have h := h M4 hM4
    exact x_vret dX8_add_52 h
theorem cX8_add_ {Q : Mem → Prop} {l0 : Nat} {l1 : Int32} {l2 : Int32} {l3 : Int32} {M : Mem} (hk_l0 : SHk l0 = 8) (h : FX8_add Q l0 l1 l2 l3 M) : xM yX8_add cX8_add 4 none 1 [.ref l0, .int l1, .int l2, .int l3] M (xQv Q) := xM_of (by decide +kernel) (Nat.le_of_ble_eq_true rfl) (eX8_add hk_l0 h)
theorem kX8_add {own : String} {cc : ByteArray} {nL : Nat} {rt : Option FieldType} {d pc ix : Nat} {L : List (Nat × Value)} {st : List Value} {M : Mem} {Rt : xGt → Array Value → State → Outcome → State → Prop} {Q : Mem → Prop} {l0 : Nat} {l1 : Int32} {l2 : Int32} {l3 : Int32} (hd : decode cc pc = .ok (.invokevirtual ix, 3)) (q : Nat) (hq : pc + 3 = q) (hk_l0 : SHk l0 = 8) (w1 : Cond.methodLink own ix yX8_add ∈ xTs) (hr : 1 < d) (hst : (st.map fun v => v.category).sum ≤ 8) (h : FX8_add Q l0 l1 l2 l3 M) (k : ∀ (N : Mem), Q N → xX own cc nL rt d q L st N Rt) : xX own cc nL rt d pc L (.int l3 :: .int l2 :: .int l1 :: .ref l0 :: st) M Rt :=
  x_callV_v (n := 3) (As := [.int l1, .int l2, .int l3]) hd q hq hk_l0 (by decide) rfl rfl w1 kw4_31 ks1_12 kw1_12 kw4_32 (by decide +kernel) rfl hr (by decide) hst _ rfl (cX8_add_ hk_l0 h) k
def FX8_isDigit (Q : Bool → Prop) (l0 : Int32) (M : Mem) : Prop :=
  ((l0 < 48 → Q false) ∧ (¬ l0 < 48 → ((57 < l0 → Q false) ∧ (¬ 57 < l0 → Q true))))
theorem eX8_isDigit {Q : Bool → Prop} {l0 : Int32} {M : Mem} (h : FX8_isDigit Q l0 M) : xX RX8 cX8_isDigit 1 (some .boolean) 1 0 [(0, .int l0)] [] M (xQb (xP M Q)) := by
  unfold FX8_isDigit at h
  refine x_iload_n dX8_isDigit_0 rfl 1 rfl ?_
  refine x_bipush dX8_isDigit_1 kb_48 3 rfl ?_
  refine x_icmp_lt dX8_isDigit_3 16 6 rfl rfl (fun hc => ?_) (fun hc => ?_)
  · have h := h.1 hc
    refine x_iconst dX8_isDigit_16 kc_0 17 rfl ?_
    exact x_zret (z := false) dX8_isDigit_17 ⟨rfl, h⟩
  · have h := h.2 hc
    refine x_iload_n dX8_isDigit_6 rfl 7 rfl ?_
    refine x_bipush dX8_isDigit_7 kb_57 9 rfl ?_
    refine x_icmp_gt dX8_isDigit_9 16 12 rfl rfl (fun hc => ?_) (fun hc => ?_)
    · have h := h.1 hc
      refine x_iconst dX8_isDigit_16 kc_0 17 rfl ?_
      exact x_zret (z := false) dX8_isDigit_17 ⟨rfl, h⟩
    · have h := h.2 hc
      refine x_iconst dX8_isDigit_12 kc_1 13 rfl ?_
      refine x_goto dX8_isDigit_13 17 rfl ?_
      exact x_zret (z := true) dX8_isDigit_17 ⟨rfl, h⟩
theorem cX8_isDigit_ {Q : Bool → Prop} {l0 : Int32} {M : Mem} (h : FX8_isDigit Q l0 M) : xM yX8_isDigit cX8_isDigit 1 (some .boolean) 1 [.int l0] M (xQb (xP M Q)) := xM_of (by decide +kernel) (Nat.le_of_ble_eq_true rfl) (eX8_isDigit h)
theorem kX8_isDigit {own : String} {cc : ByteArray} {nL : Nat} {rt : Option FieldType} {d pc ix : Nat} {L : List (Nat × Value)} {st : List Value} {M : Mem} {Rt : xGt → Array Value → State → Outcome → State → Prop} {Q : Bool → Prop} {l0 : Int32} (hd : decode cc pc = .ok (.invokestatic ix, 3)) (q : Nat) (hq : pc + 3 = q) (w1 : Cond.methodLink own ix yX8_isDigit ∈ xTs) (hr : 1 < d) (hst : (st.map fun v => v.category).sum ≤ 8) (h : FX8_isDigit Q l0 M) (k : ∀ (r : Bool), Q r → xX own cc nL rt d q L (.int (bI r) :: st) M Rt) : xX own cc nL rt d pc L (.int l0 :: st) M Rt :=
  x_callS_b (n := 1) (As := [.int l0]) hd q hq w1 kw3_215 kw1_12 kw3_216 (by decide +kernel) rfl hr (by decide) hst _ rfl (cX8_isDigit_ h) (fun r N hN => by obtain ⟨rfl, hN⟩ := hN; exact k r hN)
def NX8_isLetter_12 (Q : Bool → Prop) (l0 : Int32) (M : Mem) : Prop :=
  ((l0 < 65 → Q false) ∧ (¬ l0 < 65 → ((90 < l0 → Q false) ∧ (¬ 90 < l0 → Q true))))
theorem nX8_isLetter_12 {Q : Bool → Prop} {l0 : Int32} {M : Mem} (h : NX8_isLetter_12 Q l0 M) : xX RX8 cX8_isLetter 1 (some .boolean) 1 12 [(0, .int l0)] [] M (xQb (xP M Q)) := by
  unfold NX8_isLetter_12 at h
  refine x_iload_n dX8_isLetter_12 rfl 13 rfl ?_
  refine x_bipush dX8_isLetter_13 kb_65 15 rfl ?_
  refine x_icmp_lt dX8_isLetter_15 28 18 rfl rfl (fun hc => ?_) (fun hc => ?_)
  · have h := h.1 hc
    refine x_iconst dX8_isLetter_28 kc_0 29 rfl ?_
    exact x_zret (z := false) dX8_isLetter_29 ⟨rfl, h⟩
  · have h := h.2 hc
    refine x_iload_n dX8_isLetter_18 rfl 19 rfl ?_
    refine x_bipush dX8_isLetter_19 kb_90 21 rfl ?_
    refine x_icmp_gt dX8_isLetter_21 28 24 rfl rfl (fun hc => ?_) (fun hc => ?_)
    · have h := h.1 hc
      refine x_iconst dX8_isLetter_28 kc_0 29 rfl ?_
      exact x_zret (z := false) dX8_isLetter_29 ⟨rfl, h⟩
    · have h := h.2 hc
      refine x_iconst dX8_isLetter_24 kc_1 25 rfl ?_
      refine x_goto dX8_isLetter_25 29 rfl ?_
      exact x_zret (z := true) dX8_isLetter_29 ⟨rfl, h⟩
def FX8_isLetter (Q : Bool → Prop) (l0 : Int32) (M : Mem) : Prop :=
  ((l0 < 97 → NX8_isLetter_12 Q l0 M) ∧ (¬ l0 < 97 → ((l0 ≤ 122 → Q true) ∧ (¬ l0 ≤ 122 → NX8_isLetter_12 Q l0 M))))
theorem eX8_isLetter {Q : Bool → Prop} {l0 : Int32} {M : Mem} (h : FX8_isLetter Q l0 M) : xX RX8 cX8_isLetter 1 (some .boolean) 1 0 [(0, .int l0)] [] M (xQb (xP M Q)) := by
  unfold FX8_isLetter at h
  refine x_iload_n dX8_isLetter_0 rfl 1 rfl ?_
  refine x_bipush dX8_isLetter_1 kb_97 3 rfl ?_
  refine x_icmp_lt dX8_isLetter_3 12 6 rfl rfl (fun hc => ?_) (fun hc => ?_)
  · have h := h.1 hc
    exact nX8_isLetter_12 h
  · have h := h.2 hc
    refine x_iload_n dX8_isLetter_6 rfl 7 rfl ?_
    refine x_bipush dX8_isLetter_7 kb_122 9 rfl ?_
    refine x_icmp_le dX8_isLetter_9 24 12 rfl rfl (fun hc => ?_) (fun hc => ?_)
    · have h := h.1 hc
      refine x_iconst dX8_isLetter_24 kc_1 25 rfl ?_
      refine x_goto dX8_isLetter_25 29 rfl ?_
      exact x_zret (z := true) dX8_isLetter_29 ⟨rfl, h⟩
    · have h := h.2 hc
      exact nX8_isLetter_12 h
theorem cX8_isLetter_ {Q : Bool → Prop} {l0 : Int32} {M : Mem} (h : FX8_isLetter Q l0 M) : xM yX8_isLetter cX8_isLetter 1 (some .boolean) 1 [.int l0] M (xQb (xP M Q)) := xM_of (by decide +kernel) (Nat.le_of_ble_eq_true rfl) (eX8_isLetter h)
theorem kX8_isLetter {own : String} {cc : ByteArray} {nL : Nat} {rt : Option FieldType} {d pc ix : Nat} {L : List (Nat × Value)} {st : List Value} {M : Mem} {Rt : xGt → Array Value → State → Outcome → State → Prop} {Q : Bool → Prop} {l0 : Int32} (hd : decode cc pc = .ok (.invokestatic ix, 3)) (q : Nat) (hq : pc + 3 = q) (w1 : Cond.methodLink own ix yX8_isLetter ∈ xTs) (hr : 1 < d) (hst : (st.map fun v => v.category).sum ≤ 8) (h : FX8_isLetter Q l0 M) (k : ∀ (r : Bool), Q r → xX own cc nL rt d q L (.int (bI r) :: st) M Rt) : xX own cc nL rt d pc L (.int l0 :: st) M Rt :=
  x_callS_b (n := 1) (As := [.int l0]) hd q hq w1 kw3_212 kw1_12 kw3_213 (by decide +kernel) rfl hr (by decide) hst _ rfl (cX8_isLetter_ h) (fun r N hN => by obtain ⟨rfl, hN⟩ := hN; exact k r hN)
def FX8_signAt (Q : Int32 → Prop) (l0 : Nat) (l1 : Int32) (M : Mem) : Prop :=
  ((l1 < 0 → Q 0) ∧ (¬ l1 < 0 → (((Int32.ofNat (SHn l0)) ≤ l1 → Q 0) ∧ (¬ (Int32.ofNat (SHn l0)) ≤ l1 → vp_in l1 (SHn l0) ∧ Q ((M l0 (ix l1)) &&& 255)))))
theorem eX8_signAt {Q : Int32 → Prop} {l0 : Nat} {l1 : Int32} {M : Mem} (hk_l0 : SHk l0 = 14) (h : FX8_signAt Q l0 l1 M) : xX RX8 cX8_signAt 2 (some .int) 1 0 [(0, .ref l0), (1, .int l1)] [] M (xQi (xP M Q)) := by
  unfold FX8_signAt at h
  refine x_iload_n dX8_signAt_0 rfl 1 rfl ?_
  refine x_if_lt dX8_signAt_1 20 4 rfl rfl (fun hc => ?_) (fun hc => ?_)
  · have h := h.1 hc
    refine x_iconst dX8_signAt_20 kc_0 21 rfl ?_
    exact x_iret dX8_signAt_21 ⟨rfl, h⟩
  · have h := h.2 hc
    refine x_iload_n dX8_signAt_4 rfl 5 rfl ?_
    refine x_aload_n dX8_signAt_5 rfl 6 rfl ?_
    refine x_alenb (n := Int32.ofNat (SHn l0)) dX8_signAt_6 ⟨hk_l0, rfl⟩ rfl 7 rfl ?_
    refine x_icmp_ge dX8_signAt_7 20 10 rfl rfl (fun hc => ?_) (fun hc => ?_)
    · have h := h.1 hc
      refine x_iconst dX8_signAt_20 kc_0 21 rfl ?_
      exact x_iret dX8_signAt_21 ⟨rfl, h⟩
    · have h := h.2 hc
      refine x_aload_n dX8_signAt_10 rfl 11 rfl ?_
      refine x_iload_n dX8_signAt_11 rfl 12 rfl ?_
      obtain ⟨hin, h⟩ := h
      refine x_baload dX8_signAt_12 ⟨hk_l0, rfl⟩ hin 13 rfl ?_
      refine x_sipush dX8_signAt_13 kh_255 16 rfl ?_
      refine x_iand dX8_signAt_16 17 rfl ?_
      refine x_goto dX8_signAt_17 21 rfl ?_
      exact x_iret dX8_signAt_21 ⟨rfl, h⟩
theorem cX8_signAt_ {Q : Int32 → Prop} {l0 : Nat} {l1 : Int32} {M : Mem} (hk_l0 : SHk l0 = 14) (h : FX8_signAt Q l0 l1 M) : xM yX8_signAt cX8_signAt 2 (some .int) 1 [.ref l0, .int l1] M (xQi (xP M Q)) := xM_of (by decide +kernel) (Nat.le_of_ble_eq_true rfl) (eX8_signAt hk_l0 h)
theorem kX8_signAt {own : String} {cc : ByteArray} {nL : Nat} {rt : Option FieldType} {d pc ix : Nat} {L : List (Nat × Value)} {st : List Value} {M : Mem} {Rt : xGt → Array Value → State → Outcome → State → Prop} {Q : Int32 → Prop} {l0 : Nat} {l1 : Int32} (hd : decode cc pc = .ok (.invokestatic ix, 3)) (q : Nat) (hq : pc + 3 = q) (hk_l0 : SHk l0 = 14) (w1 : Cond.methodLink own ix yX8_signAt ∈ xTs) (hr : 1 < d) (hst : (st.map fun v => v.category).sum ≤ 8) (h : FX8_signAt Q l0 l1 M) (k : ∀ (r : Int32), Q r → xX own cc nL rt d q L (.int r :: st) M Rt) : xX own cc nL rt d pc L (.int l1 :: .ref l0 :: st) M Rt :=
  x_callS_i (n := 2) (As := [.ref l0, .int l1]) hd q hq w1 kw3_209 kw1_12 kw3_210 (by decide +kernel) rfl hr (by decide) hst _ rfl (cX8_signAt_ hk_l0 h) (fun r N hN => by obtain ⟨rfl, hN⟩ := hN; exact k r hN)
def NX8_endOf_46 (Q : Int32 → Prop) (B24 : Int32 → Prop) (l0 : Nat) (l2 : Int32) (l3 : Int32) (l4 : Int32) (l5 : Int32) (M : Mem) : Prop :=
  ((l4 = 0 → Q l5) ∧ (¬ l4 = 0 → FX8_signAt (fun (r1 : Int32) => FX8_isDigit (fun (r2 : Bool) => ((r2 = false → Q l5) ∧ (r2 = true → B24 (l5 + 1)))) r1 M) l0 l5 M))
theorem nX8_endOf_46 {Q : Int32 → Prop} {B24 : Int32 → Prop} {l0 : Nat} {l2 : Int32} {l3 : Int32} {l4 : Int32} {l5 : Int32} {M : Mem} (hB24 : ∀ (l5 : Int32), B24 l5 → xX RX8 cX8_endOf 6 (some .int) 2 24 [(0, .ref l0), (2, .int l2), (3, .int l3), (4, .int l4), (5, .int l5)] [] M (xQi (xP M Q))) (hk_l0 : SHk l0 = 14) (h : NX8_endOf_46 Q B24 l0 l2 l3 l4 l5 M) : xX RX8 cX8_endOf 6 (some .int) 2 46 [(0, .ref l0), (2, .int l2), (3, .int l3), (4, .int l4), (5, .int l5)] [] M (xQi (xP M Q)) := by
  unfold NX8_endOf_46 at h
  refine x_iload dX8_endOf_46 rfl 48 rfl ?_
  refine x_if_eq dX8_endOf_48 69 51 rfl rfl (fun hc => ?_) (fun hc => ?_)
  · have h := h.1 hc
    refine x_iload dX8_endOf_69 rfl 71 rfl ?_
    exact x_iret dX8_endOf_71 ⟨rfl, h⟩
  · have h := h.2 hc
    refine x_aload_n dX8_endOf_51 rfl 52 rfl ?_
    refine x_iload dX8_endOf_52 rfl 54 rfl ?_
    refine kX8_signAt dX8_endOf_54 57 rfl hk_l0 kw3_208 (Nat.le_of_ble_eq_true rfl) (Nat.le_of_ble_eq_true rfl) h (fun r1 h => ?_)
    refine kX8_isDigit dX8_endOf_57 60 rfl kw3_214 (Nat.le_of_ble_eq_true rfl) (Nat.le_of_ble_eq_true rfl) h (fun r2 h => ?_)
    refine x_if_eq_b dX8_endOf_60 69 63 rfl rfl (fun hc => ?_) (fun hc => ?_)
    · have h := h.1 hc
      refine x_iload dX8_endOf_69 rfl 71 rfl ?_
      exact x_iret dX8_endOf_71 ⟨rfl, h⟩
    · have h := h.2 hc
      refine x_iinc dX8_endOf_63 rfl (congrArg (l5 + ·) kc_1) (Nat.le_of_ble_eq_true rfl) [(0, .ref l0), (2, .int l2), (3, .int l3), (4, .int l4), (5, .int (l5 + 1))] rfl 66 rfl ?_
      refine x_goto dX8_endOf_66 24 rfl ?_
      exact hB24 _ h
def lbX8_endOf_24 (Q : Int32 → Prop) (l0 : Nat) (l2 : Int32) (l3 : Int32) (l4 : Int32) (M : Mem) (B24 : Int32 → Prop) (l5 : Int32) : Prop :=
  ((l2 ≤ l5 → Q l5) ∧ (¬ l2 ≤ l5 → ((l3 = 0 → NX8_endOf_46 Q B24 l0 l2 l3 l4 l5 M) ∧ (¬ l3 = 0 → FX8_signAt (fun (r3 : Int32) => FX8_isLetter (fun (r4 : Bool) => ((r4 = true → B24 (l5 + 1)) ∧ (r4 = false → NX8_endOf_46 Q B24 l0 l2 l3 l4 l5 M))) r3 M) l0 l5 M))))
def NX8_endOf_24 (Q : Int32 → Prop) (l0 : Nat) (l2 : Int32) (l3 : Int32) (l4 : Int32) (l5 : Int32) (M : Mem) : Prop := xlp (fun (B : Int32 → Prop) a => lbX8_endOf_24 Q l0 l2 l3 l4 M (fun l5 => B (l5)) a) (l5)
theorem nX8_endOf_24 {Q : Int32 → Prop} {l0 : Nat} {l2 : Int32} {l3 : Int32} {l4 : Int32} {l5 : Int32} {M : Mem} (hk_l0 : SHk l0 = 14) (h : NX8_endOf_24 Q l0 l2 l3 l4 l5 M) : xX RX8 cX8_endOf 6 (some .int) 2 24 [(0, .ref l0), (2, .int l2), (3, .int l3), (4, .int l4), (5, .int l5)] [] M (xQi (xP M Q)) := by
  obtain ⟨n, h⟩ := h
  have hB24 : ∀ (n : Nat) (l5 : Int32), xlpn (fun (B : Int32 → Prop) a => lbX8_endOf_24 Q l0 l2 l3 l4 M (fun l5 => B (l5)) a) n (l5) → xX RX8 cX8_endOf 6 (some .int) 2 24 [(0, .ref l0), (2, .int l2), (3, .int l3), (4, .int l4), (5, .int l5)] [] M (xQi (xP M Q)) := by
    intro n
    induction n with
    | zero => intro l5 h; exact False.elim h
    | succ n ih =>
      intro l5 h
      have hB24 := ih
      have h : lbX8_endOf_24 Q l0 l2 l3 l4 M (fun l5 => xlpn (fun (B : Int32 → Prop) a => lbX8_endOf_24 Q l0 l2 l3 l4 M (fun l5 => B (l5)) a) n (l5)) l5 := h
      unfold lbX8_endOf_24 at h
      refine x_iload dX8_endOf_24 rfl 26 rfl ?_
      refine x_iload_n dX8_endOf_26 rfl 27 rfl ?_
      refine x_icmp_ge dX8_endOf_27 69 30 rfl rfl (fun hc => ?_) (fun hc => ?_)
      · have h := h.1 hc
        refine x_iload dX8_endOf_69 rfl 71 rfl ?_
        exact x_iret dX8_endOf_71 ⟨rfl, h⟩
      · have h := h.2 hc
        refine x_iload_n dX8_endOf_30 rfl 31 rfl ?_
        refine x_if_eq dX8_endOf_31 46 34 rfl rfl (fun hc => ?_) (fun hc => ?_)
        · have h := h.1 hc
          exact nX8_endOf_46 hB24 hk_l0 h
        · have h := h.2 hc
          refine x_aload_n dX8_endOf_34 rfl 35 rfl ?_
          refine x_iload dX8_endOf_35 rfl 37 rfl ?_
          refine kX8_signAt dX8_endOf_37 40 rfl hk_l0 kw3_208 (Nat.le_of_ble_eq_true rfl) (Nat.le_of_ble_eq_true rfl) h (fun r3 h => ?_)
          refine kX8_isLetter dX8_endOf_40 43 rfl kw3_211 (Nat.le_of_ble_eq_true rfl) (Nat.le_of_ble_eq_true rfl) h (fun r4 h => ?_)
          refine x_if_ne_b dX8_endOf_43 63 46 rfl rfl (fun hc => ?_) (fun hc => ?_)
          · have h := h.1 hc
            refine x_iinc dX8_endOf_63 rfl (congrArg (l5 + ·) kc_1) (Nat.le_of_ble_eq_true rfl) [(0, .ref l0), (2, .int l2), (3, .int l3), (4, .int l4), (5, .int (l5 + 1))] rfl 66 rfl ?_
            refine x_goto dX8_endOf_66 24 rfl ?_
            exact hB24 _ h
          · have h := h.2 hc
            exact nX8_endOf_46 hB24 hk_l0 h
  exact hB24 n l5 h
def FX8_endOf (Q : Int32 → Prop) (l0 : Nat) (l1 : Int32) (l2 : Int32) (M : Mem) : Prop :=
  FX8_signAt (fun (r5 : Int32) => FX8_isLetter (fun (r6 : Bool) => FX8_signAt (fun (r7 : Int32) => FX8_isDigit (fun (r8 : Bool) => NX8_endOf_24 Q l0 l2 (bI r6) (bI r8) (l1 + 1) M) r7 M) l0 l1 M) r5 M) l0 l1 M
theorem eX8_endOf {Q : Int32 → Prop} {l0 : Nat} {l1 : Int32} {l2 : Int32} {M : Mem} (hk_l0 : SHk l0 = 14) (h : FX8_endOf Q l0 l1 l2 M) : xX RX8 cX8_endOf 6 (some .int) 2 0 [(0, .ref l0), (1, .int l1), (2, .int l2)] [] M (xQi (xP M Q)) := by
  unfold FX8_endOf at h
  refine x_aload_n dX8_endOf_0 rfl 1 rfl ?_
  refine x_iload_n dX8_endOf_1 rfl 2 rfl ?_
  refine kX8_signAt dX8_endOf_2 5 rfl hk_l0 kw3_208 (Nat.le_of_ble_eq_true rfl) (Nat.le_of_ble_eq_true rfl) h (fun r5 h => ?_)
  refine kX8_isLetter dX8_endOf_5 8 rfl kw3_211 (Nat.le_of_ble_eq_true rfl) (Nat.le_of_ble_eq_true rfl) h (fun r6 h => ?_)
  refine x_istore_n dX8_endOf_8 (Nat.le_of_ble_eq_true rfl) [(0, .ref l0), (1, .int l1), (2, .int l2), (3, .int (bI r6))] rfl 9 rfl ?_
  refine x_aload_n dX8_endOf_9 rfl 10 rfl ?_
  refine x_iload_n dX8_endOf_10 rfl 11 rfl ?_
  refine kX8_signAt dX8_endOf_11 14 rfl hk_l0 kw3_208 (Nat.le_of_ble_eq_true rfl) (Nat.le_of_ble_eq_true rfl) h (fun r7 h => ?_)
  refine kX8_isDigit dX8_endOf_14 17 rfl kw3_214 (Nat.le_of_ble_eq_true rfl) (Nat.le_of_ble_eq_true rfl) h (fun r8 h => ?_)
  refine x_istore dX8_endOf_17 (Nat.le_of_ble_eq_true rfl) [(0, .ref l0), (1, .int l1), (2, .int l2), (3, .int (bI r6)), (4, .int (bI r8))] rfl 19 rfl ?_
  refine x_iload_n dX8_endOf_19 rfl 20 rfl ?_
  refine x_iconst dX8_endOf_20 kc_1 21 rfl ?_
  refine x_iadd dX8_endOf_21 22 rfl ?_
  refine x_istore dX8_endOf_22 (Nat.le_of_ble_eq_true rfl) [(0, .ref l0), (1, .int l1), (2, .int l2), (3, .int (bI r6)), (4, .int (bI r8)), (5, .int (l1 + 1))] rfl 24 rfl ?_
  refine x_weak [(0, .ref l0), (2, .int l2), (3, .int (bI r6)), (4, .int (bI r8)), (5, .int (l1 + 1))] [0, 2, 3, 4, 5] rfl ?_
  exact nX8_endOf_24 hk_l0 h
theorem cX8_endOf_ {Q : Int32 → Prop} {l0 : Nat} {l1 : Int32} {l2 : Int32} {M : Mem} (hk_l0 : SHk l0 = 14) (h : FX8_endOf Q l0 l1 l2 M) : xM yX8_endOf cX8_endOf 6 (some .int) 2 [.ref l0, .int l1, .int l2] M (xQi (xP M Q)) := xM_of (by decide +kernel) (Nat.le_of_ble_eq_true rfl) (eX8_endOf hk_l0 h)
theorem kX8_endOf {own : String} {cc : ByteArray} {nL : Nat} {rt : Option FieldType} {d pc ix : Nat} {L : List (Nat × Value)} {st : List Value} {M : Mem} {Rt : xGt → Array Value → State → Outcome → State → Prop} {Q : Int32 → Prop} {l0 : Nat} {l1 : Int32} {l2 : Int32} (hd : decode cc pc = .ok (.invokestatic ix, 3)) (q : Nat) (hq : pc + 3 = q) (hk_l0 : SHk l0 = 14) (w1 : Cond.methodLink own ix yX8_endOf ∈ xTs) (hr : 2 < d) (hst : (st.map fun v => v.category).sum ≤ 8) (h : FX8_endOf Q l0 l1 l2 M) (k : ∀ (r : Int32), Q r → xX own cc nL rt d q L (.int r :: st) M Rt) : xX own cc nL rt d pc L (.int l2 :: .int l1 :: .ref l0 :: st) M Rt :=
  x_callS_i (n := 3) (As := [.ref l0, .int l1, .int l2]) hd q hq w1 kw3_206 kw1_12 kw3_207 (by decide +kernel) rfl hr (by decide) hst _ rfl (cX8_endOf_ hk_l0 h) (fun r N hN => by obtain ⟨rfl, hN⟩ := hN; exact k r hN)
def lbX8_numberOf_5 (Q : Int32 → Prop) (l0 : Nat) (l1 : Int32) (l2 : Int32) (M : Mem) (B5 : Int32 → Int32 → Prop) (l3 : Int32) (l4 : Int32) : Prop :=
  ((l2 ≤ l4 → Q l3) ∧ (¬ l2 ≤ l4 → (((l1 + 4) ≤ l4 → Q l3) ∧ (¬ (l1 + 4) ≤ l4 → FX8_signAt (fun (r1 : Int32) => ∀ y2 : Int32, y2 = ((l3 * 10) + r1) - 48 → B5 y2 (l4 + 1)) l0 l4 M))))
def NX8_numberOf_5 (Q : Int32 → Prop) (l0 : Nat) (l1 : Int32) (l2 : Int32) (l3 : Int32) (l4 : Int32) (M : Mem) : Prop := xlp (fun (B : Int32 × Int32 → Prop) a => lbX8_numberOf_5 Q l0 l1 l2 M (fun l3 l4 => B (l3, l4)) a.1 a.2) (l3, l4)
theorem nX8_numberOf_5 {Q : Int32 → Prop} {l0 : Nat} {l1 : Int32} {l2 : Int32} {l3 : Int32} {l4 : Int32} {M : Mem} (hk_l0 : SHk l0 = 14) (h : NX8_numberOf_5 Q l0 l1 l2 l3 l4 M) : xX RX8 cX8_numberOf 5 (some .int) 2 5 [(0, .ref l0), (1, .int l1), (2, .int l2), (3, .int l3), (4, .int l4)] [] M (xQi (xP M Q)) := by
  obtain ⟨n, h⟩ := h
  have hB5 : ∀ (n : Nat) (l3 : Int32) (l4 : Int32), xlpn (fun (B : Int32 × Int32 → Prop) a => lbX8_numberOf_5 Q l0 l1 l2 M (fun l3 l4 => B (l3, l4)) a.1 a.2) n (l3, l4) → xX RX8 cX8_numberOf 5 (some .int) 2 5 [(0, .ref l0), (1, .int l1), (2, .int l2), (3, .int l3), (4, .int l4)] [] M (xQi (xP M Q)) := by
    intro n
    induction n with
    | zero => intro l3 l4 h; exact False.elim h
    | succ n ih =>
      intro l3 l4 h
      have hB5 := ih
      have h : lbX8_numberOf_5 Q l0 l1 l2 M (fun l3 l4 => xlpn (fun (B : Int32 × Int32 → Prop) a => lbX8_numberOf_5 Q l0 l1 l2 M (fun l3 l4 => B (l3, l4)) a.1 a.2) n (l3, l4)) l3 l4 := h
      unfold lbX8_numberOf_5 at h
      refine x_iload dX8_numberOf_5 rfl 7 rfl ?_
      refine x_iload_n dX8_numberOf_7 rfl 8 rfl ?_
      refine x_icmp_ge dX8_numberOf_8 40 11 rfl rfl (fun hc => ?_) (fun hc => ?_)
      · have h := h.1 hc
        refine x_iload_n dX8_numberOf_40 rfl 41 rfl ?_
        exact x_iret dX8_numberOf_41 ⟨rfl, h⟩
      · have h := h.2 hc
        refine x_iload dX8_numberOf_11 rfl 13 rfl ?_
        refine x_iload_n dX8_numberOf_13 rfl 14 rfl ?_
        refine x_iconst dX8_numberOf_14 kc_4 15 rfl ?_
        refine x_iadd dX8_numberOf_15 16 rfl ?_
        refine x_icmp_ge dX8_numberOf_16 40 19 rfl rfl (fun hc => ?_) (fun hc => ?_)
        · have h := h.1 hc
          refine x_iload_n dX8_numberOf_40 rfl 41 rfl ?_
          exact x_iret dX8_numberOf_41 ⟨rfl, h⟩
        · have h := h.2 hc
          refine x_iload_n dX8_numberOf_19 rfl 20 rfl ?_
          refine x_bipush dX8_numberOf_20 kb_10 22 rfl ?_
          refine x_imul dX8_numberOf_22 23 rfl ?_
          refine x_aload_n dX8_numberOf_23 rfl 24 rfl ?_
          refine x_iload dX8_numberOf_24 rfl 26 rfl ?_
          refine kX8_signAt dX8_numberOf_26 29 rfl hk_l0 kw3_208 (Nat.le_of_ble_eq_true rfl) (Nat.le_of_ble_eq_true rfl) h (fun r1 h => ?_)
          refine x_iadd dX8_numberOf_29 30 rfl ?_
          refine x_bipush dX8_numberOf_30 kb_48 32 rfl ?_
          refine x_isub dX8_numberOf_32 33 rfl ?_
          refine x_top (fun y2 hy2 => ?_)
          have h := h y2 hy2
          refine x_istore_n dX8_numberOf_33 (Nat.le_of_ble_eq_true rfl) [(0, .ref l0), (1, .int l1), (2, .int l2), (3, .int y2), (4, .int l4)] rfl 34 rfl ?_
          refine x_iinc dX8_numberOf_34 rfl (congrArg (l4 + ·) kc_1) (Nat.le_of_ble_eq_true rfl) [(0, .ref l0), (1, .int l1), (2, .int l2), (3, .int y2), (4, .int (l4 + 1))] rfl 37 rfl ?_
          refine x_goto dX8_numberOf_37 5 rfl ?_
          exact hB5 _ _ h
  exact hB5 n l3 l4 h
def FX8_numberOf (Q : Int32 → Prop) (l0 : Nat) (l1 : Int32) (l2 : Int32) (M : Mem) : Prop :=
  NX8_numberOf_5 Q l0 l1 l2 0 l1 M
theorem eX8_numberOf {Q : Int32 → Prop} {l0 : Nat} {l1 : Int32} {l2 : Int32} {M : Mem} (hk_l0 : SHk l0 = 14) (h : FX8_numberOf Q l0 l1 l2 M) : xX RX8 cX8_numberOf 5 (some .int) 2 0 [(0, .ref l0), (1, .int l1), (2, .int l2)] [] M (xQi (xP M Q)) := by
  unfold FX8_numberOf at h
  refine x_iconst dX8_numberOf_0 kc_0 1 rfl ?_
  refine x_istore_n dX8_numberOf_1 (Nat.le_of_ble_eq_true rfl) [(0, .ref l0), (1, .int l1), (2, .int l2), (3, .int 0)] rfl 2 rfl ?_
  refine x_iload_n dX8_numberOf_2 rfl 3 rfl ?_
  refine x_istore dX8_numberOf_3 (Nat.le_of_ble_eq_true rfl) [(0, .ref l0), (1, .int l1), (2, .int l2), (3, .int 0), (4, .int l1)] rfl 5 rfl ?_
  exact nX8_numberOf_5 hk_l0 h
theorem cX8_numberOf_ {Q : Int32 → Prop} {l0 : Nat} {l1 : Int32} {l2 : Int32} {M : Mem} (hk_l0 : SHk l0 = 14) (h : FX8_numberOf Q l0 l1 l2 M) : xM yX8_numberOf cX8_numberOf 5 (some .int) 2 [.ref l0, .int l1, .int l2] M (xQi (xP M Q)) := xM_of (by decide +kernel) (Nat.le_of_ble_eq_true rfl) (eX8_numberOf hk_l0 h)
theorem kX8_numberOf {own : String} {cc : ByteArray} {nL : Nat} {rt : Option FieldType} {d pc ix : Nat} {L : List (Nat × Value)} {st : List Value} {M : Mem} {Rt : xGt → Array Value → State → Outcome → State → Prop} {Q : Int32 → Prop} {l0 : Nat} {l1 : Int32} {l2 : Int32} (hd : decode cc pc = .ok (.invokestatic ix, 3)) (q : Nat) (hq : pc + 3 = q) (hk_l0 : SHk l0 = 14) (w1 : Cond.methodLink own ix yX8_numberOf ∈ xTs) (hr : 2 < d) (hst : (st.map fun v => v.category).sum ≤ 8) (h : FX8_numberOf Q l0 l1 l2 M) (k : ∀ (r : Int32), Q r → xX own cc nL rt d q L (.int r :: st) M Rt) : xX own cc nL rt d pc L (.int l2 :: .int l1 :: .ref l0 :: st) M Rt :=
  x_callS_i (n := 3) (As := [.ref l0, .int l1, .int l2]) hd q hq w1 kw4_34 kw1_12 kw4_35 (by decide +kernel) rfl hr (by decide) hst _ rfl (cX8_numberOf_ hk_l0 h) (fun r N hN => by obtain ⟨rfl, hN⟩ := hN; exact k r hN)
def lbX7_closure_26 (Q : Int32 → Prop) (B8 : Int32 → Int32 → Int32 → Prop) (l0 : Nat) (l2 : Int32) (l5 : Int32) (l6 : Int32) (M : Mem) (B26 : Int32 → Int32 → Prop) (l3 : Int32) (l7 : Int32) : Prop :=
  (((M l0 2) ≤ l7 → ((l3 = l6 → B8 l3 0 (l5 + 1)) ∧ (¬ l3 = l6 → B8 l3 1 (l5 + 1)))) ∧ (¬ (M l0 2) ≤ l7 → ((l7 = l2 → B26 l3 (l7 + 1)) ∧ (¬ l7 = l2 → vp_in l7 16 ∧ ((¬ ((M (l0 + 1) (ix l7)) &&& (l3 ^^^ (-1))) = 0 → B26 l3 (l7 + 1)) ∧ (((M (l0 + 1) (ix l7)) &&& (l3 ^^^ (-1))) = 0 → vp_in l7 16 ∧ ∀ y1 : Int32, y1 = l3 ||| (M (l0 + 2) (ix l7)) → B26 y1 (l7 + 1)))))))
def NX7_closure_26 (Q : Int32 → Prop) (B8 : Int32 → Int32 → Int32 → Prop) (l0 : Nat) (l2 : Int32) (l3 : Int32) (l5 : Int32) (l6 : Int32) (l7 : Int32) (M : Mem) : Prop := xlp (fun (B : Int32 × Int32 → Prop) a => lbX7_closure_26 Q B8 l0 l2 l5 l6 M (fun l3 l7 => B (l3, l7)) a.1 a.2) (l3, l7)
theorem nX7_closure_26 {Q : Int32 → Prop} {B8 : Int32 → Int32 → Int32 → Prop} {l0 : Nat} {l2 : Int32} {l3 : Int32} {l5 : Int32} {l6 : Int32} {l7 : Int32} {M : Mem} (hB8 : ∀ (l3 : Int32) (l4 : Int32) (l5 : Int32), B8 l3 l4 l5 → xX RX7 cX7_closure 8 (some .int) 1 8 [(0, .ref l0), (2, .int l2), (3, .int l3), (4, .int l4), (5, .int l5)] [] M (xQi (xP M Q))) (hk_l0 : SHk l0 = 7) (h : NX7_closure_26 Q B8 l0 l2 l3 l5 l6 l7 M) : xX RX7 cX7_closure 8 (some .int) 1 26 [(0, .ref l0), (2, .int l2), (3, .int l3), (5, .int l5), (6, .int l6), (7, .int l7)] [] M (xQi (xP M Q)) := by
  obtain ⟨n, h⟩ := h
  have hB26 : ∀ (n : Nat) (l3 : Int32) (l7 : Int32), xlpn (fun (B : Int32 × Int32 → Prop) a => lbX7_closure_26 Q B8 l0 l2 l5 l6 M (fun l3 l7 => B (l3, l7)) a.1 a.2) n (l3, l7) → xX RX7 cX7_closure 8 (some .int) 1 26 [(0, .ref l0), (2, .int l2), (3, .int l3), (5, .int l5), (6, .int l6), (7, .int l7)] [] M (xQi (xP M Q)) := by
    intro n
    induction n with
    | zero => intro l3 l7 h; exact False.elim h
    | succ n ih =>
      intro l3 l7 h
      have hB26 := ih
      have h : lbX7_closure_26 Q B8 l0 l2 l5 l6 M (fun l3 l7 => xlpn (fun (B : Int32 × Int32 → Prop) a => lbX7_closure_26 Q B8 l0 l2 l5 l6 M (fun l3 l7 => B (l3, l7)) a.1 a.2) n (l3, l7)) l3 l7 := h
      unfold lbX7_closure_26 at h
      refine x_iload dX7_closure_26 rfl 28 rfl ?_
      refine x_aload_n dX7_closure_28 rfl 29 rfl ?_
      refine gf7_2 dX7_closure_29 32 rfl hk_l0 kw1_219 ?_
      refine x_icmp_ge dX7_closure_32 71 35 rfl rfl (fun hc => ?_) (fun hc => ?_)
      · have h := h.1 hc
        refine x_iload_n dX7_closure_71 rfl 72 rfl ?_
        refine x_iload dX7_closure_72 rfl 74 rfl ?_
        refine x_icmp_eq dX7_closure_74 81 77 rfl rfl (fun hc => ?_) (fun hc => ?_)
        · have h := h.1 hc
          refine x_iconst dX7_closure_81 kc_0 82 rfl ?_
          refine x_istore dX7_closure_82 (Nat.le_of_ble_eq_true rfl) [(0, .ref l0), (2, .int l2), (3, .int l3), (4, .int 0), (5, .int l5), (6, .int l6), (7, .int l7)] rfl 84 rfl ?_
          refine x_iinc dX7_closure_84 rfl (congrArg (l5 + ·) kc_1) (Nat.le_of_ble_eq_true rfl) [(0, .ref l0), (2, .int l2), (3, .int l3), (4, .int 0), (5, .int (l5 + 1)), (6, .int l6), (7, .int l7)] rfl 87 rfl ?_
          refine x_goto dX7_closure_87 8 rfl ?_
          refine x_weak [(0, .ref l0), (2, .int l2), (3, .int l3), (4, .int 0), (5, .int (l5 + 1))] [0, 1, 2, 3, 4] rfl ?_
          exact hB8 _ _ _ h
        · have h := h.2 hc
          refine x_iconst dX7_closure_77 kc_1 78 rfl ?_
          refine x_goto dX7_closure_78 82 rfl ?_
          refine x_istore dX7_closure_82 (Nat.le_of_ble_eq_true rfl) [(0, .ref l0), (2, .int l2), (3, .int l3), (4, .int 1), (5, .int l5), (6, .int l6), (7, .int l7)] rfl 84 rfl ?_
          refine x_iinc dX7_closure_84 rfl (congrArg (l5 + ·) kc_1) (Nat.le_of_ble_eq_true rfl) [(0, .ref l0), (2, .int l2), (3, .int l3), (4, .int 1), (5, .int (l5 + 1)), (6, .int l6), (7, .int l7)] rfl 87 rfl ?_
          refine x_goto dX7_closure_87 8 rfl ?_
          refine x_weak [(0, .ref l0), (2, .int l2), (3, .int l3), (4, .int 1), (5, .int (l5 + 1))] [0, 1, 2, 3, 4] rfl ?_
          exact hB8 _ _ _ h
      · have h := h.2 hc
        refine x_iload dX7_closure_35 rfl 37 rfl ?_
        refine x_iload_n dX7_closure_37 rfl 38 rfl ?_
        refine x_icmp_eq dX7_closure_38 65 41 rfl rfl (fun hc => ?_) (fun hc => ?_)
        · have h := h.1 hc
          refine x_iinc dX7_closure_65 rfl (congrArg (l7 + ·) kc_1) (Nat.le_of_ble_eq_true rfl) [(0, .ref l0), (2, .int l2), (3, .int l3), (5, .int l5), (6, .int l6), (7, .int (l7 + 1))] rfl 68 rfl ?_
          refine x_goto dX7_closure_68 26 rfl ?_
          exact hB26 _ _ h
        · have h := h.2 hc
          refine x_aload_n dX7_closure_41 rfl 42 rfl ?_
          refine gf7_0 dX7_closure_42 45 rfl hk_l0 kw1_217 ?_
          refine x_iload dX7_closure_45 rfl 47 rfl ?_
          obtain ⟨hin, h⟩ := h
          refine x_iaload dX7_closure_47 (ly7_0 hk_l0) hin 48 rfl ?_
          refine x_iload_n dX7_closure_48 rfl 49 rfl ?_
          refine x_iconst dX7_closure_49 kc_m1 50 rfl ?_
          refine x_ixor dX7_closure_50 51 rfl ?_
          refine x_iand dX7_closure_51 52 rfl ?_
          refine x_if_ne dX7_closure_52 65 55 rfl rfl (fun hc => ?_) (fun hc => ?_)
          · have h := h.1 hc
            refine x_iinc dX7_closure_65 rfl (congrArg (l7 + ·) kc_1) (Nat.le_of_ble_eq_true rfl) [(0, .ref l0), (2, .int l2), (3, .int l3), (5, .int l5), (6, .int l6), (7, .int (l7 + 1))] rfl 68 rfl ?_
            refine x_goto dX7_closure_68 26 rfl ?_
            exact hB26 _ _ h
          · have h := h.2 hc
            refine x_iload_n dX7_closure_55 rfl 56 rfl ?_
            refine x_aload_n dX7_closure_56 rfl 57 rfl ?_
            refine gf7_1 dX7_closure_57 60 rfl hk_l0 kw1_218 ?_
            refine x_iload dX7_closure_60 rfl 62 rfl ?_
            obtain ⟨hin, h⟩ := h
            refine x_iaload dX7_closure_62 (ly7_1 hk_l0) hin 63 rfl ?_
            refine x_ior dX7_closure_63 64 rfl ?_
            refine x_top (fun y1 hy1 => ?_)
            have h := h y1 hy1
            refine x_istore_n dX7_closure_64 (Nat.le_of_ble_eq_true rfl) [(0, .ref l0), (2, .int l2), (3, .int y1), (5, .int l5), (6, .int l6), (7, .int l7)] rfl 65 rfl ?_
            refine x_iinc dX7_closure_65 rfl (congrArg (l7 + ·) kc_1) (Nat.le_of_ble_eq_true rfl) [(0, .ref l0), (2, .int l2), (3, .int y1), (5, .int l5), (6, .int l6), (7, .int (l7 + 1))] rfl 68 rfl ?_
            refine x_goto dX7_closure_68 26 rfl ?_
            exact hB26 _ _ h
  exact hB26 n l3 l7 h
def lbX7_closure_8 (Q : Int32 → Prop) (l0 : Nat) (l2 : Int32) (M : Mem) (B8 : Int32 → Int32 → Int32 → Prop) (l3 : Int32) (l4 : Int32) (l5 : Int32) : Prop :=
  ((16 < l5 → Q l3) ∧ (¬ 16 < l5 → ((l4 = 0 → Q l3) ∧ (¬ l4 = 0 → NX7_closure_26 Q B8 l0 l2 l3 l5 l3 0 M))))
def NX7_closure_8 (Q : Int32 → Prop) (l0 : Nat) (l2 : Int32) (l3 : Int32) (l4 : Int32) (l5 : Int32) (M : Mem) : Prop := xlp (fun (B : Int32 × Int32 × Int32 → Prop) a => lbX7_closure_8 Q l0 l2 M (fun l3 l4 l5 => B (l3, l4, l5)) a.1 a.2.1 a.2.2) (l3, l4, l5)
theorem nX7_closure_8 {Q : Int32 → Prop} {l0 : Nat} {l2 : Int32} {l3 : Int32} {l4 : Int32} {l5 : Int32} {M : Mem} (hk_l0 : SHk l0 = 7) (h : NX7_closure_8 Q l0 l2 l3 l4 l5 M) : xX RX7 cX7_closure 8 (some .int) 1 8 [(0, .ref l0), (2, .int l2), (3, .int l3), (4, .int l4), (5, .int l5)] [] M (xQi (xP M Q)) := by
  obtain ⟨n, h⟩ := h
  have hB8 : ∀ (n : Nat) (l3 : Int32) (l4 : Int32) (l5 : Int32), xlpn (fun (B : Int32 × Int32 × Int32 → Prop) a => lbX7_closure_8 Q l0 l2 M (fun l3 l4 l5 => B (l3, l4, l5)) a.1 a.2.1 a.2.2) n (l3, l4, l5) → xX RX7 cX7_closure 8 (some .int) 1 8 [(0, .ref l0), (2, .int l2), (3, .int l3), (4, .int l4), (5, .int l5)] [] M (xQi (xP M Q)) := by
    intro n
    induction n with
    | zero => intro l3 l4 l5 h; exact False.elim h
    | succ n ih =>
      intro l3 l4 l5 h
      have hB8 := ih
      have h : lbX7_closure_8 Q l0 l2 M (fun l3 l4 l5 => xlpn (fun (B : Int32 × Int32 × Int32 → Prop) a => lbX7_closure_8 Q l0 l2 M (fun l3 l4 l5 => B (l3, l4, l5)) a.1 a.2.1 a.2.2) n (l3, l4, l5)) l3 l4 l5 := h
      unfold lbX7_closure_8 at h
      refine x_iload dX7_closure_8 rfl 10 rfl ?_
      refine x_bipush dX7_closure_10 kb_16 12 rfl ?_
      refine x_icmp_gt dX7_closure_12 90 15 rfl rfl (fun hc => ?_) (fun hc => ?_)
      · have h := h.1 hc
        refine x_iload_n dX7_closure_90 rfl 91 rfl ?_
        exact x_iret dX7_closure_91 ⟨rfl, h⟩
      · have h := h.2 hc
        refine x_iload dX7_closure_15 rfl 17 rfl ?_
        refine x_if_eq dX7_closure_17 90 20 rfl rfl (fun hc => ?_) (fun hc => ?_)
        · have h := h.1 hc
          refine x_iload_n dX7_closure_90 rfl 91 rfl ?_
          exact x_iret dX7_closure_91 ⟨rfl, h⟩
        · have h := h.2 hc
          refine x_iload_n dX7_closure_20 rfl 21 rfl ?_
          refine x_istore dX7_closure_21 (Nat.le_of_ble_eq_true rfl) [(0, .ref l0), (2, .int l2), (3, .int l3), (4, .int l4), (5, .int l5), (6, .int l3)] rfl 23 rfl ?_
          refine x_iconst dX7_closure_23 kc_0 24 rfl ?_
          refine x_istore dX7_closure_24 (Nat.le_of_ble_eq_true rfl) [(0, .ref l0), (2, .int l2), (3, .int l3), (4, .int l4), (5, .int l5), (6, .int l3), (7, .int 0)] rfl 26 rfl ?_
          refine x_weak [(0, .ref l0), (2, .int l2), (3, .int l3), (5, .int l5), (6, .int l3), (7, .int 0)] [0, 1, 2, 4, 5, 6] rfl ?_
          exact nX7_closure_26 hB8 hk_l0 h
  exact hB8 n l3 l4 l5 h
def FX7_closure (Q : Int32 → Prop) (l0 : Nat) (l1 : Int32) (l2 : Int32) (M : Mem) : Prop :=
  NX7_closure_8 Q l0 l2 l1 1 0 M
theorem eX7_closure {Q : Int32 → Prop} {l0 : Nat} {l1 : Int32} {l2 : Int32} {M : Mem} (hk_l0 : SHk l0 = 7) (h : FX7_closure Q l0 l1 l2 M) : xX RX7 cX7_closure 8 (some .int) 1 0 [(0, .ref l0), (1, .int l1), (2, .int l2)] [] M (xQi (xP M Q)) := by
  unfold FX7_closure at h
  refine x_iload_n dX7_closure_0 rfl 1 rfl ?_
  refine x_istore_n dX7_closure_1 (Nat.le_of_ble_eq_true rfl) [(0, .ref l0), (1, .int l1), (2, .int l2), (3, .int l1)] rfl 2 rfl ?_
  refine x_iconst dX7_closure_2 kc_1 3 rfl ?_
  refine x_istore dX7_closure_3 (Nat.le_of_ble_eq_true rfl) [(0, .ref l0), (1, .int l1), (2, .int l2), (3, .int l1), (4, .int 1)] rfl 5 rfl ?_
  refine x_iconst dX7_closure_5 kc_0 6 rfl ?_
  refine x_istore dX7_closure_6 (Nat.le_of_ble_eq_true rfl) [(0, .ref l0), (1, .int l1), (2, .int l2), (3, .int l1), (4, .int 1), (5, .int 0)] rfl 8 rfl ?_
  refine x_weak [(0, .ref l0), (2, .int l2), (3, .int l1), (4, .int 1), (5, .int 0)] [0, 2, 3, 4, 5] rfl ?_
  exact nX7_closure_8 hk_l0 h
theorem cX7_closure_ {Q : Int32 → Prop} {l0 : Nat} {l1 : Int32} {l2 : Int32} {M : Mem} (hk_l0 : SHk l0 = 7) (h : FX7_closure Q l0 l1 l2 M) : xM yX7_closure cX7_closure 8 (some .int) 1 [.ref l0, .int l1, .int l2] M (xQi (xP M Q)) := xM_of (by decide +kernel) (Nat.le_of_ble_eq_true rfl) (eX7_closure hk_l0 h)
theorem kX7_closure {own : String} {cc : ByteArray} {nL : Nat} {rt : Option FieldType} {d pc ix : Nat} {L : List (Nat × Value)} {st : List Value} {M : Mem} {Rt : xGt → Array Value → State → Outcome → State → Prop} {Q : Int32 → Prop} {l0 : Nat} {l1 : Int32} {l2 : Int32} (hd : decode cc pc = .ok (.invokevirtual ix, 3)) (q : Nat) (hq : pc + 3 = q) (hk_l0 : SHk l0 = 7) (w1 : Cond.methodLink own ix yX7_closure ∈ xTs) (hr : 1 < d) (hst : (st.map fun v => v.category).sum ≤ 8) (h : FX7_closure Q l0 l1 l2 M) (k : ∀ (r : Int32), Q r → xX own cc nL rt d q L (.int r :: st) M Rt) : xX own cc nL rt d pc L (.int l2 :: .int l1 :: .ref l0 :: st) M Rt :=
  x_callV_i (n := 2) (As := [.int l1, .int l2]) hd q hq hk_l0 (by decide) rfl rfl w1 kw5_9 kw5_10 kw1_8 kw5_11 (by decide +kernel) rfl hr (by decide) hst _ rfl (cX7_closure_ hk_l0 h) (fun r N hN => by obtain ⟨rfl, hN⟩ := hN; exact k r hN)
def lbX7_idle_4 (Q : Int32 → Prop) (l0 : Nat) (M : Mem) (B4 : Int32 → Int32 → Prop) (l1 : Int32) (l2 : Int32) : Prop :=
  (((M l0 2) ≤ l2 → Q l1) ∧ (¬ (M l0 2) ≤ l2 → vp_in l2 16 ∧ FX7_closure (fun (r1 : Int32) => vp_in l2 16 ∧ (((r1 &&& (M (l0 + 2) (ix l2))) = 0 → B4 l1 (l2 + 1)) ∧ (¬ (r1 &&& (M (l0 + 2) (ix l2))) = 0 → B4 (l1 + 1) (l2 + 1)))) l0 (M (l0 + 1) (ix l2)) l2 M))
def NX7_idle_4 (Q : Int32 → Prop) (l0 : Nat) (l1 : Int32) (l2 : Int32) (M : Mem) : Prop := xlp (fun (B : Int32 × Int32 → Prop) a => lbX7_idle_4 Q l0 M (fun l1 l2 => B (l1, l2)) a.1 a.2) (l1, l2)
theorem nX7_idle_4 {Q : Int32 → Prop} {l0 : Nat} {l1 : Int32} {l2 : Int32} {M : Mem} (hk_l0 : SHk l0 = 7) (h : NX7_idle_4 Q l0 l1 l2 M) : xX RX7 cX7_idle 3 (some .int) 2 4 [(0, .ref l0), (1, .int l1), (2, .int l2)] [] M (xQi (xP M Q)) := by
  obtain ⟨n, h⟩ := h
  have hB4 : ∀ (n : Nat) (l1 : Int32) (l2 : Int32), xlpn (fun (B : Int32 × Int32 → Prop) a => lbX7_idle_4 Q l0 M (fun l1 l2 => B (l1, l2)) a.1 a.2) n (l1, l2) → xX RX7 cX7_idle 3 (some .int) 2 4 [(0, .ref l0), (1, .int l1), (2, .int l2)] [] M (xQi (xP M Q)) := by
    intro n
    induction n with
    | zero => intro l1 l2 h; exact False.elim h
    | succ n ih =>
      intro l1 l2 h
      have hB4 := ih
      have h : lbX7_idle_4 Q l0 M (fun l1 l2 => xlpn (fun (B : Int32 × Int32 → Prop) a => lbX7_idle_4 Q l0 M (fun l1 l2 => B (l1, l2)) a.1 a.2) n (l1, l2)) l1 l2 := h
      unfold lbX7_idle_4 at h
      refine x_iload_n dX7_idle_4 rfl 5 rfl ?_
      refine x_aload_n dX7_idle_5 rfl 6 rfl ?_
      refine gf7_2 dX7_idle_6 9 rfl hk_l0 kw1_219 ?_
      refine x_icmp_ge dX7_idle_9 42 12 rfl rfl (fun hc => ?_) (fun hc => ?_)
      · have h := h.1 hc
        refine x_iload_n dX7_idle_42 rfl 43 rfl ?_
        exact x_iret dX7_idle_43 ⟨rfl, h⟩
      · have h := h.2 hc
        refine x_aload_n dX7_idle_12 rfl 13 rfl ?_
        refine x_aload_n dX7_idle_13 rfl 14 rfl ?_
        refine gf7_0 dX7_idle_14 17 rfl hk_l0 kw1_217 ?_
        refine x_iload_n dX7_idle_17 rfl 18 rfl ?_
        obtain ⟨hin, h⟩ := h
        refine x_iaload dX7_idle_18 (ly7_0 hk_l0) hin 19 rfl ?_
        refine x_iload_n dX7_idle_19 rfl 20 rfl ?_
        refine kX7_closure dX7_idle_20 23 rfl hk_l0 kw5_20 (Nat.le_of_ble_eq_true rfl) (Nat.le_of_ble_eq_true rfl) h (fun r1 h => ?_)
        refine x_aload_n dX7_idle_23 rfl 24 rfl ?_
        refine gf7_1 dX7_idle_24 27 rfl hk_l0 kw1_218 ?_
        refine x_iload_n dX7_idle_27 rfl 28 rfl ?_
        obtain ⟨hin, h⟩ := h
        refine x_iaload dX7_idle_28 (ly7_1 hk_l0) hin 29 rfl ?_
        refine x_iand dX7_idle_29 30 rfl ?_
        refine x_if_eq dX7_idle_30 36 33 rfl rfl (fun hc => ?_) (fun hc => ?_)
        · have h := h.1 hc
          refine x_iinc dX7_idle_36 rfl (congrArg (l2 + ·) kc_1) (Nat.le_of_ble_eq_true rfl) [(0, .ref l0), (1, .int l1), (2, .int (l2 + 1))] rfl 39 rfl ?_
          refine x_goto dX7_idle_39 4 rfl ?_
          exact hB4 _ _ h
        · have h := h.2 hc
          refine x_iinc dX7_idle_33 rfl (congrArg (l1 + ·) kc_1) (Nat.le_of_ble_eq_true rfl) [(0, .ref l0), (1, .int (l1 + 1)), (2, .int l2)] rfl 36 rfl ?_
          refine x_iinc dX7_idle_36 rfl (congrArg (l2 + ·) kc_1) (Nat.le_of_ble_eq_true rfl) [(0, .ref l0), (1, .int (l1 + 1)), (2, .int (l2 + 1))] rfl 39 rfl ?_
          refine x_goto dX7_idle_39 4 rfl ?_
          exact hB4 _ _ h
  exact hB4 n l1 l2 h
def FX7_idle (Q : Int32 → Prop) (l0 : Nat) (M : Mem) : Prop :=
  NX7_idle_4 Q l0 0 0 M
theorem eX7_idle {Q : Int32 → Prop} {l0 : Nat} {M : Mem} (hk_l0 : SHk l0 = 7) (h : FX7_idle Q l0 M) : xX RX7 cX7_idle 3 (some .int) 2 0 [(0, .ref l0)] [] M (xQi (xP M Q)) := by
  unfold FX7_idle at h
  refine x_iconst dX7_idle_0 kc_0 1 rfl ?_
  refine x_istore_n dX7_idle_1 (Nat.le_of_ble_eq_true rfl) [(0, .ref l0), (1, .int 0)] rfl 2 rfl ?_
  refine x_iconst dX7_idle_2 kc_0 3 rfl ?_
  refine x_istore_n dX7_idle_3 (Nat.le_of_ble_eq_true rfl) [(0, .ref l0), (1, .int 0), (2, .int 0)] rfl 4 rfl ?_
  exact nX7_idle_4 hk_l0 h
theorem cX7_idle_ {Q : Int32 → Prop} {l0 : Nat} {M : Mem} (hk_l0 : SHk l0 = 7) (h : FX7_idle Q l0 M) : xM yX7_idle cX7_idle 3 (some .int) 2 [.ref l0] M (xQi (xP M Q)) := xM_of (by decide +kernel) (Nat.le_of_ble_eq_true rfl) (eX7_idle hk_l0 h)
theorem kX7_idle {own : String} {cc : ByteArray} {nL : Nat} {rt : Option FieldType} {d pc ix : Nat} {L : List (Nat × Value)} {st : List Value} {M : Mem} {Rt : xGt → Array Value → State → Outcome → State → Prop} {Q : Int32 → Prop} {l0 : Nat} (hd : decode cc pc = .ok (.invokevirtual ix, 3)) (q : Nat) (hq : pc + 3 = q) (hk_l0 : SHk l0 = 7) (w1 : Cond.methodLink own ix yX7_idle ∈ xTs) (hr : 2 < d) (hst : (st.map fun v => v.category).sum ≤ 8) (h : FX7_idle Q l0 M) (k : ∀ (r : Int32), Q r → xX own cc nL rt d q L (.int r :: st) M Rt) : xX own cc nL rt d pc L (.ref l0 :: st) M Rt :=
  x_callV_i (n := 0) (As := []) hd q hq hk_l0 (by decide) rfl rfl w1 kw5_17 kw5_18 kw1_8 kw5_19 (by decide +kernel) rfl hr (by decide) hst _ rfl (cX7_idle_ hk_l0 h) (fun r N hN => by obtain ⟨rfl, hN⟩ := hN; exact k r hN)
def FJ6_bitCount_0f7a4 (Q : Int32 → Prop) (l0 : Int32) (M : Mem) : Prop :=
  ∀ y1 : Int32, y1 = l0 - (((l0.toUInt32 >>> ((1 : Int32).toUInt32 &&& Int32.toUInt32 31)).toInt32) &&& 1431655765) → ∀ y2 : Int32, y2 = (y1 &&& 858993459) + (((y1.toUInt32 >>> ((2 : Int32).toUInt32 &&& Int32.toUInt32 31)).toInt32) &&& 858993459) → ∀ y3 : Int32, y3 = (y2 + ((y2.toUInt32 >>> ((4 : Int32).toUInt32 &&& Int32.toUInt32 31)).toInt32)) &&& 252645135 → ∀ y4 : Int32, y4 = y3 + ((y3.toUInt32 >>> ((8 : Int32).toUInt32 &&& Int32.toUInt32 31)).toInt32) → ∀ y5 : Int32, y5 = y4 + ((y4.toUInt32 >>> ((16 : Int32).toUInt32 &&& Int32.toUInt32 31)).toInt32) → Q (y5 &&& 63)
theorem eJ6_bitCount_0f7a4 {Q : Int32 → Prop} {l0 : Int32} {M : Mem} (h : FJ6_bitCount_0f7a4 Q l0 M) : xX RJ6 cJ6_bitCount_0f7a4 1 (some .int) 1 0 [(0, .int l0)] [] M (xQi (xP M Q)) := by
  unfold FJ6_bitCount_0f7a4 at h
  refine x_iload_n dJ6_bitCount_0f7a4_0 rfl 1 rfl ?_
  refine x_iload_n dJ6_bitCount_0f7a4_1 rfl 2 rfl ?_
  refine x_iconst dJ6_bitCount_0f7a4_2 kc_1 3 rfl ?_
  refine x_iushr dJ6_bitCount_0f7a4_3 4 rfl ?_
  refine x_ldcw dJ6_bitCount_0f7a4_4 kw4_192 7 rfl ?_
  refine x_iand dJ6_bitCount_0f7a4_7 8 rfl ?_
  refine x_isub dJ6_bitCount_0f7a4_8 9 rfl ?_
  refine x_top (fun y1 hy1 => ?_)
  have h := h y1 hy1
  refine x_istore_n dJ6_bitCount_0f7a4_9 (Nat.le_of_ble_eq_true rfl) [(0, .int y1)] rfl 10 rfl ?_
  refine x_iload_n dJ6_bitCount_0f7a4_10 rfl 11 rfl ?_
  refine x_ldcw dJ6_bitCount_0f7a4_11 kw4_193 14 rfl ?_
  refine x_iand dJ6_bitCount_0f7a4_14 15 rfl ?_
  refine x_iload_n dJ6_bitCount_0f7a4_15 rfl 16 rfl ?_
  refine x_iconst dJ6_bitCount_0f7a4_16 kc_2 17 rfl ?_
  refine x_iushr dJ6_bitCount_0f7a4_17 18 rfl ?_
  refine x_ldcw dJ6_bitCount_0f7a4_18 kw4_193 21 rfl ?_
  refine x_iand dJ6_bitCount_0f7a4_21 22 rfl ?_
  refine x_iadd dJ6_bitCount_0f7a4_22 23 rfl ?_
  refine x_top (fun y2 hy2 => ?_)
  have h := h y2 hy2
  refine x_istore_n dJ6_bitCount_0f7a4_23 (Nat.le_of_ble_eq_true rfl) [(0, .int y2)] rfl 24 rfl ?_
  refine x_iload_n dJ6_bitCount_0f7a4_24 rfl 25 rfl ?_
  refine x_iload_n dJ6_bitCount_0f7a4_25 rfl 26 rfl ?_
  refine x_iconst dJ6_bitCount_0f7a4_26 kc_4 27 rfl ?_
  refine x_iushr dJ6_bitCount_0f7a4_27 28 rfl ?_
  refine x_iadd dJ6_bitCount_0f7a4_28 29 rfl ?_
  refine x_ldcw dJ6_bitCount_0f7a4_29 kw4_194 32 rfl ?_
  refine x_iand dJ6_bitCount_0f7a4_32 33 rfl ?_
  refine x_top (fun y3 hy3 => ?_)
  have h := h y3 hy3
  refine x_istore_n dJ6_bitCount_0f7a4_33 (Nat.le_of_ble_eq_true rfl) [(0, .int y3)] rfl 34 rfl ?_
  refine x_iload_n dJ6_bitCount_0f7a4_34 rfl 35 rfl ?_
  refine x_iload_n dJ6_bitCount_0f7a4_35 rfl 36 rfl ?_
  refine x_bipush dJ6_bitCount_0f7a4_36 kb_8 38 rfl ?_
  refine x_iushr dJ6_bitCount_0f7a4_38 39 rfl ?_
  refine x_iadd dJ6_bitCount_0f7a4_39 40 rfl ?_
  refine x_top (fun y4 hy4 => ?_)
  have h := h y4 hy4
  refine x_istore_n dJ6_bitCount_0f7a4_40 (Nat.le_of_ble_eq_true rfl) [(0, .int y4)] rfl 41 rfl ?_
  refine x_iload_n dJ6_bitCount_0f7a4_41 rfl 42 rfl ?_
  refine x_iload_n dJ6_bitCount_0f7a4_42 rfl 43 rfl ?_
  refine x_bipush dJ6_bitCount_0f7a4_43 kb_16 45 rfl ?_
  refine x_iushr dJ6_bitCount_0f7a4_45 46 rfl ?_
  refine x_iadd dJ6_bitCount_0f7a4_46 47 rfl ?_
  refine x_top (fun y5 hy5 => ?_)
  have h := h y5 hy5
  refine x_istore_n dJ6_bitCount_0f7a4_47 (Nat.le_of_ble_eq_true rfl) [(0, .int y5)] rfl 48 rfl ?_
  refine x_iload_n dJ6_bitCount_0f7a4_48 rfl 49 rfl ?_
  refine x_bipush dJ6_bitCount_0f7a4_49 kb_63 51 rfl ?_
  refine x_iand dJ6_bitCount_0f7a4_51 52 rfl ?_
  exact x_iret dJ6_bitCount_0f7a4_52 ⟨rfl, h⟩
theorem cJ6_bitCount_0f7a4_ {Q : Int32 → Prop} {l0 : Int32} {M : Mem} (h : FJ6_bitCount_0f7a4 Q l0 M) : xM yJ6_bitCount_0f7a4 cJ6_bitCount_0f7a4 1 (some .int) 1 [.int l0] M (xQi (xP M Q)) := xM_ofF (by decide +kernel) (Nat.le_of_ble_eq_true rfl) (eJ6_bitCount_0f7a4 h)
theorem kJ6_bitCount_0f7a4 {own : String} {cc : ByteArray} {nL : Nat} {rt : Option FieldType} {d pc ix : Nat} {L : List (Nat × Value)} {st : List Value} {M : Mem} {Rt : xGt → Array Value → State → Outcome → State → Prop} {Q : Int32 → Prop} {l0 : Int32} (hd : decode cc pc = .ok (.invokestatic ix, 3)) (q : Nat) (hq : pc + 3 = q) (w1 : Cond.methodLink own ix yJ6_bitCount_0f7a4 ∈ xTs) (hr : 1 < d) (hst : (st.map fun v => v.category).sum ≤ 8) (h : FJ6_bitCount_0f7a4 Q l0 M) (k : ∀ (r : Int32), Q r → xX own cc nL rt d q L (.int r :: st) M Rt) : xX own cc nL rt d pc L (.int l0 :: st) M Rt :=
  x_callS_i (n := 1) (As := [.int l0]) hd q hq w1 kw4_190 kw1_21 kw4_191 (by decide +kernel) rfl hr (by decide) hst _ rfl (cJ6_bitCount_0f7a4_ h) (fun r N hN => by obtain ⟨rfl, hN⟩ := hN; exact k r hN)
def lbX7_leadingTo_24 (Q : Int32 → Prop) (B7 : Int32 → Int32 → Int32 → Prop) (l0 : Nat) (l4 : Int32) (l5 : Int32) (M : Mem) (B24 : Int32 → Int32 → Prop) (l2 : Int32) (l6 : Int32) : Prop :=
  (((M l0 2) ≤ l6 → ((l2 = l5 → B7 l2 0 (l4 + 1)) ∧ (¬ l2 = l5 → B7 l2 1 (l4 + 1)))) ∧ (¬ (M l0 2) ≤ l6 → vp_in l6 16 ∧ ((((M (l0 + 2) (ix l6)) &&& l2) = 0 → B24 l2 (l6 + 1)) ∧ (¬ ((M (l0 + 2) (ix l6)) &&& l2) = 0 → vp_in l6 16 ∧ ∀ y1 : Int32, y1 = l2 ||| (M (l0 + 1) (ix l6)) → B24 y1 (l6 + 1)))))
def NX7_leadingTo_24 (Q : Int32 → Prop) (B7 : Int32 → Int32 → Int32 → Prop) (l0 : Nat) (l2 : Int32) (l4 : Int32) (l5 : Int32) (l6 : Int32) (M : Mem) : Prop := xlp (fun (B : Int32 × Int32 → Prop) a => lbX7_leadingTo_24 Q B7 l0 l4 l5 M (fun l2 l6 => B (l2, l6)) a.1 a.2) (l2, l6)
theorem nX7_leadingTo_24 {Q : Int32 → Prop} {B7 : Int32 → Int32 → Int32 → Prop} {l0 : Nat} {l2 : Int32} {l4 : Int32} {l5 : Int32} {l6 : Int32} {M : Mem} (hB7 : ∀ (l2 : Int32) (l3 : Int32) (l4 : Int32), B7 l2 l3 l4 → xX RX7 cX7_leadingTo 7 (some .int) 1 7 [(0, .ref l0), (2, .int l2), (3, .int l3), (4, .int l4)] [] M (xQi (xP M Q))) (hk_l0 : SHk l0 = 7) (h : NX7_leadingTo_24 Q B7 l0 l2 l4 l5 l6 M) : xX RX7 cX7_leadingTo 7 (some .int) 1 24 [(0, .ref l0), (2, .int l2), (4, .int l4), (5, .int l5), (6, .int l6)] [] M (xQi (xP M Q)) := by
  obtain ⟨n, h⟩ := h
  have hB24 : ∀ (n : Nat) (l2 : Int32) (l6 : Int32), xlpn (fun (B : Int32 × Int32 → Prop) a => lbX7_leadingTo_24 Q B7 l0 l4 l5 M (fun l2 l6 => B (l2, l6)) a.1 a.2) n (l2, l6) → xX RX7 cX7_leadingTo 7 (some .int) 1 24 [(0, .ref l0), (2, .int l2), (4, .int l4), (5, .int l5), (6, .int l6)] [] M (xQi (xP M Q)) := by
    intro n
    induction n with
    | zero => intro l2 l6 h; exact False.elim h
    | succ n ih =>
      intro l2 l6 h
      have hB24 := ih
      have h : lbX7_leadingTo_24 Q B7 l0 l4 l5 M (fun l2 l6 => xlpn (fun (B : Int32 × Int32 → Prop) a => lbX7_leadingTo_24 Q B7 l0 l4 l5 M (fun l2 l6 => B (l2, l6)) a.1 a.2) n (l2, l6)) l2 l6 := h
      unfold lbX7_leadingTo_24 at h
      refine x_iload dX7_leadingTo_24 rfl 26 rfl ?_
      refine x_aload_n dX7_leadingTo_26 rfl 27 rfl ?_
      refine gf7_2 dX7_leadingTo_27 30 rfl hk_l0 kw1_219 ?_
      refine x_icmp_ge dX7_leadingTo_30 61 33 rfl rfl (fun hc => ?_) (fun hc => ?_)
      · have h := h.1 hc
        refine x_iload_n dX7_leadingTo_61 rfl 62 rfl ?_
        refine x_iload dX7_leadingTo_62 rfl 64 rfl ?_
        refine x_icmp_eq dX7_leadingTo_64 71 67 rfl rfl (fun hc => ?_) (fun hc => ?_)
        · have h := h.1 hc
          refine x_iconst dX7_leadingTo_71 kc_0 72 rfl ?_
          refine x_istore_n dX7_leadingTo_72 (Nat.le_of_ble_eq_true rfl) [(0, .ref l0), (2, .int l2), (3, .int 0), (4, .int l4), (5, .int l5), (6, .int l6)] rfl 73 rfl ?_
          refine x_iinc dX7_leadingTo_73 rfl (congrArg (l4 + ·) kc_1) (Nat.le_of_ble_eq_true rfl) [(0, .ref l0), (2, .int l2), (3, .int 0), (4, .int (l4 + 1)), (5, .int l5), (6, .int l6)] rfl 76 rfl ?_
          refine x_goto dX7_leadingTo_76 7 rfl ?_
          refine x_weak [(0, .ref l0), (2, .int l2), (3, .int 0), (4, .int (l4 + 1))] [0, 1, 2, 3] rfl ?_
          exact hB7 _ _ _ h
        · have h := h.2 hc
          refine x_iconst dX7_leadingTo_67 kc_1 68 rfl ?_
          refine x_goto dX7_leadingTo_68 72 rfl ?_
          refine x_istore_n dX7_leadingTo_72 (Nat.le_of_ble_eq_true rfl) [(0, .ref l0), (2, .int l2), (3, .int 1), (4, .int l4), (5, .int l5), (6, .int l6)] rfl 73 rfl ?_
          refine x_iinc dX7_leadingTo_73 rfl (congrArg (l4 + ·) kc_1) (Nat.le_of_ble_eq_true rfl) [(0, .ref l0), (2, .int l2), (3, .int 1), (4, .int (l4 + 1)), (5, .int l5), (6, .int l6)] rfl 76 rfl ?_
          refine x_goto dX7_leadingTo_76 7 rfl ?_
          refine x_weak [(0, .ref l0), (2, .int l2), (3, .int 1), (4, .int (l4 + 1))] [0, 1, 2, 3] rfl ?_
          exact hB7 _ _ _ h
      · have h := h.2 hc
        refine x_aload_n dX7_leadingTo_33 rfl 34 rfl ?_
        refine gf7_1 dX7_leadingTo_34 37 rfl hk_l0 kw1_218 ?_
        refine x_iload dX7_leadingTo_37 rfl 39 rfl ?_
        obtain ⟨hin, h⟩ := h
        refine x_iaload dX7_leadingTo_39 (ly7_1 hk_l0) hin 40 rfl ?_
        refine x_iload_n dX7_leadingTo_40 rfl 41 rfl ?_
        refine x_iand dX7_leadingTo_41 42 rfl ?_
        refine x_if_eq dX7_leadingTo_42 55 45 rfl rfl (fun hc => ?_) (fun hc => ?_)
        · have h := h.1 hc
          refine x_iinc dX7_leadingTo_55 rfl (congrArg (l6 + ·) kc_1) (Nat.le_of_ble_eq_true rfl) [(0, .ref l0), (2, .int l2), (4, .int l4), (5, .int l5), (6, .int (l6 + 1))] rfl 58 rfl ?_
          refine x_goto dX7_leadingTo_58 24 rfl ?_
          exact hB24 _ _ h
        · have h := h.2 hc
          refine x_iload_n dX7_leadingTo_45 rfl 46 rfl ?_
          refine x_aload_n dX7_leadingTo_46 rfl 47 rfl ?_
          refine gf7_0 dX7_leadingTo_47 50 rfl hk_l0 kw1_217 ?_
          refine x_iload dX7_leadingTo_50 rfl 52 rfl ?_
          obtain ⟨hin, h⟩ := h
          refine x_iaload dX7_leadingTo_52 (ly7_0 hk_l0) hin 53 rfl ?_
          refine x_ior dX7_leadingTo_53 54 rfl ?_
          refine x_top (fun y1 hy1 => ?_)
          have h := h y1 hy1
          refine x_istore_n dX7_leadingTo_54 (Nat.le_of_ble_eq_true rfl) [(0, .ref l0), (2, .int y1), (4, .int l4), (5, .int l5), (6, .int l6)] rfl 55 rfl ?_
          refine x_iinc dX7_leadingTo_55 rfl (congrArg (l6 + ·) kc_1) (Nat.le_of_ble_eq_true rfl) [(0, .ref l0), (2, .int y1), (4, .int l4), (5, .int l5), (6, .int (l6 + 1))] rfl 58 rfl ?_
          refine x_goto dX7_leadingTo_58 24 rfl ?_
          exact hB24 _ _ h
  exact hB24 n l2 l6 h
def lbX7_leadingTo_7 (Q : Int32 → Prop) (l0 : Nat) (M : Mem) (B7 : Int32 → Int32 → Int32 → Prop) (l2 : Int32) (l3 : Int32) (l4 : Int32) : Prop :=
  ((16 < l4 → Q l2) ∧ (¬ 16 < l4 → ((l3 = 0 → Q l2) ∧ (¬ l3 = 0 → NX7_leadingTo_24 Q B7 l0 l2 l4 l2 0 M))))
def NX7_leadingTo_7 (Q : Int32 → Prop) (l0 : Nat) (l2 : Int32) (l3 : Int32) (l4 : Int32) (M : Mem) : Prop := xlp (fun (B : Int32 × Int32 × Int32 → Prop) a => lbX7_leadingTo_7 Q l0 M (fun l2 l3 l4 => B (l2, l3, l4)) a.1 a.2.1 a.2.2) (l2, l3, l4)
theorem nX7_leadingTo_7 {Q : Int32 → Prop} {l0 : Nat} {l2 : Int32} {l3 : Int32} {l4 : Int32} {M : Mem} (hk_l0 : SHk l0 = 7) (h : NX7_leadingTo_7 Q l0 l2 l3 l4 M) : xX RX7 cX7_leadingTo 7 (some .int) 1 7 [(0, .ref l0), (2, .int l2), (3, .int l3), (4, .int l4)] [] M (xQi (xP M Q)) := by
  obtain ⟨n, h⟩ := h
  have hB7 : ∀ (n : Nat) (l2 : Int32) (l3 : Int32) (l4 : Int32), xlpn (fun (B : Int32 × Int32 × Int32 → Prop) a => lbX7_leadingTo_7 Q l0 M (fun l2 l3 l4 => B (l2, l3, l4)) a.1 a.2.1 a.2.2) n (l2, l3, l4) → xX RX7 cX7_leadingTo 7 (some .int) 1 7 [(0, .ref l0), (2, .int l2), (3, .int l3), (4, .int l4)] [] M (xQi (xP M Q)) := by
    intro n
    induction n with
    | zero => intro l2 l3 l4 h; exact False.elim h
    | succ n ih =>
      intro l2 l3 l4 h
      have hB7 := ih
      have h : lbX7_leadingTo_7 Q l0 M (fun l2 l3 l4 => xlpn (fun (B : Int32 × Int32 × Int32 → Prop) a => lbX7_leadingTo_7 Q l0 M (fun l2 l3 l4 => B (l2, l3, l4)) a.1 a.2.1 a.2.2) n (l2, l3, l4)) l2 l3 l4 := h
      unfold lbX7_leadingTo_7 at h
      refine x_iload dX7_leadingTo_7 rfl 9 rfl ?_
      refine x_bipush dX7_leadingTo_9 kb_16 11 rfl ?_
      refine x_icmp_gt dX7_leadingTo_11 79 14 rfl rfl (fun hc => ?_) (fun hc => ?_)
      · have h := h.1 hc
        refine x_iload_n dX7_leadingTo_79 rfl 80 rfl ?_
        exact x_iret dX7_leadingTo_80 ⟨rfl, h⟩
      · have h := h.2 hc
        refine x_iload_n dX7_leadingTo_14 rfl 15 rfl ?_
        refine x_if_eq dX7_leadingTo_15 79 18 rfl rfl (fun hc => ?_) (fun hc => ?_)
        · have h := h.1 hc
          refine x_iload_n dX7_leadingTo_79 rfl 80 rfl ?_
          exact x_iret dX7_leadingTo_80 ⟨rfl, h⟩
        · have h := h.2 hc
          refine x_iload_n dX7_leadingTo_18 rfl 19 rfl ?_
          refine x_istore dX7_leadingTo_19 (Nat.le_of_ble_eq_true rfl) [(0, .ref l0), (2, .int l2), (3, .int l3), (4, .int l4), (5, .int l2)] rfl 21 rfl ?_
          refine x_iconst dX7_leadingTo_21 kc_0 22 rfl ?_
          refine x_istore dX7_leadingTo_22 (Nat.le_of_ble_eq_true rfl) [(0, .ref l0), (2, .int l2), (3, .int l3), (4, .int l4), (5, .int l2), (6, .int 0)] rfl 24 rfl ?_
          refine x_weak [(0, .ref l0), (2, .int l2), (4, .int l4), (5, .int l2), (6, .int 0)] [0, 1, 3, 4, 5] rfl ?_
          exact nX7_leadingTo_24 hB7 hk_l0 h
  exact hB7 n l2 l3 l4 h
def FX7_leadingTo (Q : Int32 → Prop) (l0 : Nat) (l1 : Int32) (M : Mem) : Prop :=
  NX7_leadingTo_7 Q l0 l1 1 0 M
theorem eX7_leadingTo {Q : Int32 → Prop} {l0 : Nat} {l1 : Int32} {M : Mem} (hk_l0 : SHk l0 = 7) (h : FX7_leadingTo Q l0 l1 M) : xX RX7 cX7_leadingTo 7 (some .int) 1 0 [(0, .ref l0), (1, .int l1)] [] M (xQi (xP M Q)) := by
  unfold FX7_leadingTo at h
  refine x_iload_n dX7_leadingTo_0 rfl 1 rfl ?_
  refine x_istore_n dX7_leadingTo_1 (Nat.le_of_ble_eq_true rfl) [(0, .ref l0), (1, .int l1), (2, .int l1)] rfl 2 rfl ?_
  refine x_iconst dX7_leadingTo_2 kc_1 3 rfl ?_
  refine x_istore_n dX7_leadingTo_3 (Nat.le_of_ble_eq_true rfl) [(0, .ref l0), (1, .int l1), (2, .int l1), (3, .int 1)] rfl 4 rfl ?_
  refine x_iconst dX7_leadingTo_4 kc_0 5 rfl ?_
  refine x_istore dX7_leadingTo_5 (Nat.le_of_ble_eq_true rfl) [(0, .ref l0), (1, .int l1), (2, .int l1), (3, .int 1), (4, .int 0)] rfl 7 rfl ?_
  refine x_weak [(0, .ref l0), (2, .int l1), (3, .int 1), (4, .int 0)] [0, 2, 3, 4] rfl ?_
  exact nX7_leadingTo_7 hk_l0 h
theorem cX7_leadingTo_ {Q : Int32 → Prop} {l0 : Nat} {l1 : Int32} {M : Mem} (hk_l0 : SHk l0 = 7) (h : FX7_leadingTo Q l0 l1 M) : xM yX7_leadingTo cX7_leadingTo 7 (some .int) 1 [.ref l0, .int l1] M (xQi (xP M Q)) := xM_of (by decide +kernel) (Nat.le_of_ble_eq_true rfl) (eX7_leadingTo hk_l0 h)
theorem kX7_leadingTo {own : String} {cc : ByteArray} {nL : Nat} {rt : Option FieldType} {d pc ix : Nat} {L : List (Nat × Value)} {st : List Value} {M : Mem} {Rt : xGt → Array Value → State → Outcome → State → Prop} {Q : Int32 → Prop} {l0 : Nat} {l1 : Int32} (hd : decode cc pc = .ok (.invokevirtual ix, 3)) (q : Nat) (hq : pc + 3 = q) (hk_l0 : SHk l0 = 7) (w1 : Cond.methodLink own ix yX7_leadingTo ∈ xTs) (hr : 1 < d) (hst : (st.map fun v => v.category).sum ≤ 8) (h : FX7_leadingTo Q l0 l1 M) (k : ∀ (r : Int32), Q r → xX own cc nL rt d q L (.int r :: st) M Rt) : xX own cc nL rt d pc L (.int l1 :: .ref l0 :: st) M Rt :=
  x_callV_i (n := 1) (As := [.int l1]) hd q hq hk_l0 (by decide) rfl rfl w1 kw5_27 ks2_12 kw1_8 kw5_28 (by decide +kernel) rfl hr (by decide) hst _ rfl (cX7_leadingTo_ hk_l0 h) (fun r N hN => by obtain ⟨rfl, hN⟩ := hN; exact k r hN)
def lbX7_neededOf_5 (Q : Int32 → Prop) (l0 : Nat) (l1 : Int32) (l2 : Int32) (M : Mem) (B5 : Int32 → Int32 → Prop) (l3 : Int32) (l4 : Int32) : Prop :=
  ((16 ≤ l4 → Q l3) ∧ (¬ 16 ≤ l4 → ∀ y1 : Int32, y1 = (1 : Int32) <<< (l4 &&& 31) → (((l1 &&& y1) = 0 → B5 l3 (l4 + 1)) ∧ (¬ (l1 &&& y1) = 0 → FX7_closure (fun (r2 : Int32) => ((¬ (r2 &&& l2) = 0 → B5 l3 (l4 + 1)) ∧ ((r2 &&& l2) = 0 → B5 (l3 ||| y1) (l4 + 1)))) l0 (l1 &&& (y1 ^^^ (-1))) (-1) M))))
def NX7_neededOf_5 (Q : Int32 → Prop) (l0 : Nat) (l1 : Int32) (l2 : Int32) (l3 : Int32) (l4 : Int32) (M : Mem) : Prop := xlp (fun (B : Int32 × Int32 → Prop) a => lbX7_neededOf_5 Q l0 l1 l2 M (fun l3 l4 => B (l3, l4)) a.1 a.2) (l3, l4)
theorem nX7_neededOf_5 {Q : Int32 → Prop} {l0 : Nat} {l1 : Int32} {l2 : Int32} {l3 : Int32} {l4 : Int32} {M : Mem} (hk_l0 : SHk l0 = 7) (h : NX7_neededOf_5 Q l0 l1 l2 l3 l4 M) : xX RX7 cX7_neededOf 6 (some .int) 2 5 [(0, .ref l0), (1, .int l1), (2, .int l2), (3, .int l3), (4, .int l4)] [] M (xQi (xP M Q)) := by
  obtain ⟨n, h⟩ := h
  have hB5 : ∀ (n : Nat) (l3 : Int32) (l4 : Int32), xlpn (fun (B : Int32 × Int32 → Prop) a => lbX7_neededOf_5 Q l0 l1 l2 M (fun l3 l4 => B (l3, l4)) a.1 a.2) n (l3, l4) → xX RX7 cX7_neededOf 6 (some .int) 2 5 [(0, .ref l0), (1, .int l1), (2, .int l2), (3, .int l3), (4, .int l4)] [] M (xQi (xP M Q)) := by
    intro n
    induction n with
    | zero => intro l3 l4 h; exact False.elim h
    | succ n ih =>
      intro l3 l4 h
      have hB5 := ih
      have h : lbX7_neededOf_5 Q l0 l1 l2 M (fun l3 l4 => xlpn (fun (B : Int32 × Int32 → Prop) a => lbX7_neededOf_5 Q l0 l1 l2 M (fun l3 l4 => B (l3, l4)) a.1 a.2) n (l3, l4)) l3 l4 := h
      unfold lbX7_neededOf_5 at h
      refine x_iload dX7_neededOf_5 rfl 7 rfl ?_
      refine x_bipush dX7_neededOf_7 kb_16 9 rfl ?_
      refine x_icmp_ge dX7_neededOf_9 52 12 rfl rfl (fun hc => ?_) (fun hc => ?_)
      · have h := h.1 hc
        refine x_iload_n dX7_neededOf_52 rfl 53 rfl ?_
        exact x_iret dX7_neededOf_53 ⟨rfl, h⟩
      · have h := h.2 hc
        refine x_iconst dX7_neededOf_12 kc_1 13 rfl ?_
        refine x_iload dX7_neededOf_13 rfl 15 rfl ?_
        refine x_ishl dX7_neededOf_15 16 rfl ?_
        refine x_top (fun y1 hy1 => ?_)
        have h := h y1 hy1
        refine x_istore dX7_neededOf_16 (Nat.le_of_ble_eq_true rfl) [(0, .ref l0), (1, .int l1), (2, .int l2), (3, .int l3), (4, .int l4), (5, .int y1)] rfl 18 rfl ?_
        refine x_iload_n dX7_neededOf_18 rfl 19 rfl ?_
        refine x_iload dX7_neededOf_19 rfl 21 rfl ?_
        refine x_iand dX7_neededOf_21 22 rfl ?_
        refine x_if_eq dX7_neededOf_22 46 25 rfl rfl (fun hc => ?_) (fun hc => ?_)
        · have h := h.1 hc
          refine x_iinc dX7_neededOf_46 rfl (congrArg (l4 + ·) kc_1) (Nat.le_of_ble_eq_true rfl) [(0, .ref l0), (1, .int l1), (2, .int l2), (3, .int l3), (4, .int (l4 + 1)), (5, .int y1)] rfl 49 rfl ?_
          refine x_goto dX7_neededOf_49 5 rfl ?_
          refine x_weak [(0, .ref l0), (1, .int l1), (2, .int l2), (3, .int l3), (4, .int (l4 + 1))] [0, 1, 2, 3, 4] rfl ?_
          exact hB5 _ _ h
        · have h := h.2 hc
          refine x_aload_n dX7_neededOf_25 rfl 26 rfl ?_
          refine x_iload_n dX7_neededOf_26 rfl 27 rfl ?_
          refine x_iload dX7_neededOf_27 rfl 29 rfl ?_
          refine x_iconst dX7_neededOf_29 kc_m1 30 rfl ?_
          refine x_ixor dX7_neededOf_30 31 rfl ?_
          refine x_iand dX7_neededOf_31 32 rfl ?_
          refine x_iconst dX7_neededOf_32 kc_m1 33 rfl ?_
          refine kX7_closure dX7_neededOf_33 36 rfl hk_l0 kw5_20 (Nat.le_of_ble_eq_true rfl) (Nat.le_of_ble_eq_true rfl) h (fun r2 h => ?_)
          refine x_iload_n dX7_neededOf_36 rfl 37 rfl ?_
          refine x_iand dX7_neededOf_37 38 rfl ?_
          refine x_if_ne dX7_neededOf_38 46 41 rfl rfl (fun hc => ?_) (fun hc => ?_)
          · have h := h.1 hc
            refine x_iinc dX7_neededOf_46 rfl (congrArg (l4 + ·) kc_1) (Nat.le_of_ble_eq_true rfl) [(0, .ref l0), (1, .int l1), (2, .int l2), (3, .int l3), (4, .int (l4 + 1)), (5, .int y1)] rfl 49 rfl ?_
            refine x_goto dX7_neededOf_49 5 rfl ?_
            refine x_weak [(0, .ref l0), (1, .int l1), (2, .int l2), (3, .int l3), (4, .int (l4 + 1))] [0, 1, 2, 3, 4] rfl ?_
            exact hB5 _ _ h
          · have h := h.2 hc
            refine x_iload_n dX7_neededOf_41 rfl 42 rfl ?_
            refine x_iload dX7_neededOf_42 rfl 44 rfl ?_
            refine x_ior dX7_neededOf_44 45 rfl ?_
            refine x_istore_n dX7_neededOf_45 (Nat.le_of_ble_eq_true rfl) [(0, .ref l0), (1, .int l1), (2, .int l2), (3, .int (l3 ||| y1)), (4, .int l4), (5, .int y1)] rfl 46 rfl ?_
            refine x_iinc dX7_neededOf_46 rfl (congrArg (l4 + ·) kc_1) (Nat.le_of_ble_eq_true rfl) [(0, .ref l0), (1, .int l1), (2, .int l2), (3, .int (l3 ||| y1)), (4, .int (l4 + 1)), (5, .int y1)] rfl 49 rfl ?_
            refine x_goto dX7_neededOf_49 5 rfl ?_
            refine x_weak [(0, .ref l0), (1, .int l1), (2, .int l2), (3, .int (l3 ||| y1)), (4, .int (l4 + 1))] [0, 1, 2, 3, 4] rfl ?_
            exact hB5 _ _ h
  exact hB5 n l3 l4 h
def FX7_neededOf (Q : Int32 → Prop) (l0 : Nat) (l1 : Int32) (l2 : Int32) (M : Mem) : Prop :=
  NX7_neededOf_5 Q l0 l1 l2 0 0 M
theorem eX7_neededOf {Q : Int32 → Prop} {l0 : Nat} {l1 : Int32} {l2 : Int32} {M : Mem} (hk_l0 : SHk l0 = 7) (h : FX7_neededOf Q l0 l1 l2 M) : xX RX7 cX7_neededOf 6 (some .int) 2 0 [(0, .ref l0), (1, .int l1), (2, .int l2)] [] M (xQi (xP M Q)) := by
  unfold FX7_neededOf at h
  refine x_iconst dX7_neededOf_0 kc_0 1 rfl ?_
  refine x_istore_n dX7_neededOf_1 (Nat.le_of_ble_eq_true rfl) [(0, .ref l0), (1, .int l1), (2, .int l2), (3, .int 0)] rfl 2 rfl ?_
  refine x_iconst dX7_neededOf_2 kc_0 3 rfl ?_
  refine x_istore dX7_neededOf_3 (Nat.le_of_ble_eq_true rfl) [(0, .ref l0), (1, .int l1), (2, .int l2), (3, .int 0), (4, .int 0)] rfl 5 rfl ?_
  exact nX7_neededOf_5 hk_l0 h
theorem cX7_neededOf_ {Q : Int32 → Prop} {l0 : Nat} {l1 : Int32} {l2 : Int32} {M : Mem} (hk_l0 : SHk l0 = 7) (h : FX7_neededOf Q l0 l1 l2 M) : xM yX7_neededOf cX7_neededOf 6 (some .int) 2 [.ref l0, .int l1, .int l2] M (xQi (xP M Q)) := xM_of (by decide +kernel) (Nat.le_of_ble_eq_true rfl) (eX7_neededOf hk_l0 h)
theorem kX7_neededOf {own : String} {cc : ByteArray} {nL : Nat} {rt : Option FieldType} {d pc ix : Nat} {L : List (Nat × Value)} {st : List Value} {M : Mem} {Rt : xGt → Array Value → State → Outcome → State → Prop} {Q : Int32 → Prop} {l0 : Nat} {l1 : Int32} {l2 : Int32} (hd : decode cc pc = .ok (.invokevirtual ix, 3)) (q : Nat) (hq : pc + 3 = q) (hk_l0 : SHk l0 = 7) (w1 : Cond.methodLink own ix yX7_neededOf ∈ xTs) (hr : 2 < d) (hst : (st.map fun v => v.category).sum ≤ 8) (h : FX7_neededOf Q l0 l1 l2 M) (k : ∀ (r : Int32), Q r → xX own cc nL rt d q L (.int r :: st) M Rt) : xX own cc nL rt d pc L (.int l2 :: .int l1 :: .ref l0 :: st) M Rt :=
  x_callV_i (n := 2) (As := [.int l1, .int l2]) hd q hq hk_l0 (by decide) rfl rfl w1 kw5_31 ks2_13 kw1_8 kw5_32 (by decide +kernel) rfl hr (by decide) hst _ rfl (cX7_neededOf_ hk_l0 h) (fun r N hN => by obtain ⟨rfl, hN⟩ := hN; exact k r hN)
def NX7_fewestFor_107 (Q : Int32 → Prop) (B52 : Int32 → Int32 → Int32 → Prop) (l0 : Nat) (l2 : Int32) (l4 : Int32) (l5 : Int32) (l6 : Int32) (l7 : Int32) (l8 : Int32) (M : Mem) : Prop :=
  ((¬ l7 = l5 → B52 l6 ((l7 - l5) &&& l5) (l8 + 1)) ∧ (l7 = l5 → Q l6))
theorem nX7_fewestFor_107 {Q : Int32 → Prop} {B52 : Int32 → Int32 → Int32 → Prop} {l0 : Nat} {l2 : Int32} {l4 : Int32} {l5 : Int32} {l6 : Int32} {l7 : Int32} {l8 : Int32} {M : Mem} (hB52 : ∀ (l6 : Int32) (l7 : Int32) (l8 : Int32), B52 l6 l7 l8 → xX RX7 cX7_fewestFor 11 (some .int) 3 52 [(0, .ref l0), (2, .int l2), (4, .int l4), (5, .int l5), (6, .int l6), (7, .int l7), (8, .int l8)] [] M (xQi (xP M Q))) (hk_l0 : SHk l0 = 7) (h : NX7_fewestFor_107 Q B52 l0 l2 l4 l5 l6 l7 l8 M) : xX RX7 cX7_fewestFor 11 (some .int) 3 107 [(0, .ref l0), (2, .int l2), (4, .int l4), (5, .int l5), (6, .int l6), (7, .int l7), (8, .int l8)] [] M (xQi (xP M Q)) := by
  unfold NX7_fewestFor_107 at h
  refine x_iload dX7_fewestFor_107 rfl 109 rfl ?_
  refine x_iload dX7_fewestFor_109 rfl 111 rfl ?_
  refine x_icmp_ne dX7_fewestFor_111 117 114 rfl rfl (fun hc => ?_) (fun hc => ?_)
  · have h := h.1 hc
    refine x_iload dX7_fewestFor_117 rfl 119 rfl ?_
    refine x_iload dX7_fewestFor_119 rfl 121 rfl ?_
    refine x_isub dX7_fewestFor_121 122 rfl ?_
    refine x_iload dX7_fewestFor_122 rfl 124 rfl ?_
    refine x_iand dX7_fewestFor_124 125 rfl ?_
    refine x_istore dX7_fewestFor_125 (Nat.le_of_ble_eq_true rfl) [(0, .ref l0), (2, .int l2), (4, .int l4), (5, .int l5), (6, .int l6), (7, .int ((l7 - l5) &&& l5)), (8, .int l8)] rfl 127 rfl ?_
    refine x_iinc dX7_fewestFor_127 rfl (congrArg (l8 + ·) kc_1) (Nat.le_of_ble_eq_true rfl) [(0, .ref l0), (2, .int l2), (4, .int l4), (5, .int l5), (6, .int l6), (7, .int ((l7 - l5) &&& l5)), (8, .int (l8 + 1))] rfl 130 rfl ?_
    refine x_goto dX7_fewestFor_130 52 rfl ?_
    exact hB52 _ _ _ h
  · have h := h.2 hc
    refine x_goto dX7_fewestFor_114 133 rfl ?_
    refine x_iload dX7_fewestFor_133 rfl 135 rfl ?_
    exact x_iret dX7_fewestFor_135 ⟨rfl, h⟩
def NX7_fewestFor_84 (Q : Int32 → Prop) (B52 : Int32 → Int32 → Int32 → Prop) (l0 : Nat) (l2 : Int32) (l4 : Int32) (l5 : Int32) (l6 : Int32) (l7 : Int32) (l8 : Int32) (l9 : Int32) (s0 : Int32) (M : Mem) : Prop :=
  ((s0 = 0 → NX7_fewestFor_107 Q B52 l0 l2 l4 l5 l6 l7 l8 M) ∧ (¬ s0 = 0 → FX7_closure (fun (r1 : Int32) => (((r1 &&& l2) = 0 → NX7_fewestFor_107 Q B52 l0 l2 l4 l5 l6 l7 l8 M) ∧ (¬ (r1 &&& l2) = 0 → NX7_fewestFor_107 Q B52 l0 l2 l4 l5 l9 l7 l8 M))) l0 l9 (-1) M))
theorem nX7_fewestFor_84 {Q : Int32 → Prop} {B52 : Int32 → Int32 → Int32 → Prop} {l0 : Nat} {l2 : Int32} {l4 : Int32} {l5 : Int32} {l6 : Int32} {l7 : Int32} {l8 : Int32} {l9 : Int32} {s0 : Int32} {M : Mem} (hB52 : ∀ (l6 : Int32) (l7 : Int32) (l8 : Int32), B52 l6 l7 l8 → xX RX7 cX7_fewestFor 11 (some .int) 3 52 [(0, .ref l0), (2, .int l2), (4, .int l4), (5, .int l5), (6, .int l6), (7, .int l7), (8, .int l8)] [] M (xQi (xP M Q))) (hk_l0 : SHk l0 = 7) (h : NX7_fewestFor_84 Q B52 l0 l2 l4 l5 l6 l7 l8 l9 s0 M) : xX RX7 cX7_fewestFor 11 (some .int) 3 84 [(0, .ref l0), (2, .int l2), (4, .int l4), (5, .int l5), (6, .int l6), (7, .int l7), (8, .int l8), (9, .int l9)] [.int s0] M (xQi (xP M Q)) := by
  unfold NX7_fewestFor_84 at h
  refine x_istore dX7_fewestFor_84 (Nat.le_of_ble_eq_true rfl) [(0, .ref l0), (2, .int l2), (4, .int l4), (5, .int l5), (6, .int l6), (7, .int l7), (8, .int l8), (9, .int l9), (10, .int s0)] rfl 86 rfl ?_
  refine x_iload dX7_fewestFor_86 rfl 88 rfl ?_
  refine x_if_eq dX7_fewestFor_88 107 91 rfl rfl (fun hc => ?_) (fun hc => ?_)
  · have h := h.1 hc
    refine x_weak [(0, .ref l0), (2, .int l2), (4, .int l4), (5, .int l5), (6, .int l6), (7, .int l7), (8, .int l8)] [0, 1, 2, 3, 4, 5, 6] rfl ?_
    exact nX7_fewestFor_107 hB52 hk_l0 h
  · have h := h.2 hc
    refine x_aload_n dX7_fewestFor_91 rfl 92 rfl ?_
    refine x_iload dX7_fewestFor_92 rfl 94 rfl ?_
    refine x_iconst dX7_fewestFor_94 kc_m1 95 rfl ?_
    refine kX7_closure dX7_fewestFor_95 98 rfl hk_l0 kw5_20 (Nat.le_of_ble_eq_true rfl) (Nat.le_of_ble_eq_true rfl) h (fun r1 h => ?_)
    refine x_iload_n dX7_fewestFor_98 rfl 99 rfl ?_
    refine x_iand dX7_fewestFor_99 100 rfl ?_
    refine x_if_eq dX7_fewestFor_100 107 103 rfl rfl (fun hc => ?_) (fun hc => ?_)
    · have h := h.1 hc
      refine x_weak [(0, .ref l0), (2, .int l2), (4, .int l4), (5, .int l5), (6, .int l6), (7, .int l7), (8, .int l8)] [0, 1, 2, 3, 4, 5, 6] rfl ?_
      exact nX7_fewestFor_107 hB52 hk_l0 h
    · have h := h.2 hc
      refine x_iload dX7_fewestFor_103 rfl 105 rfl ?_
      refine x_istore dX7_fewestFor_105 (Nat.le_of_ble_eq_true rfl) [(0, .ref l0), (2, .int l2), (4, .int l4), (5, .int l5), (6, .int l9), (7, .int l7), (8, .int l8), (9, .int l9), (10, .int s0)] rfl 107 rfl ?_
      refine x_weak [(0, .ref l0), (2, .int l2), (4, .int l4), (5, .int l5), (6, .int l9), (7, .int l7), (8, .int l8)] [0, 1, 2, 3, 4, 5, 6] rfl ?_
      exact nX7_fewestFor_107 hB52 hk_l0 h
def lbX7_fewestFor_52 (Q : Int32 → Prop) (l0 : Nat) (l2 : Int32) (l4 : Int32) (l5 : Int32) (M : Mem) (B52 : Int32 → Int32 → Int32 → Prop) (l6 : Int32) (l7 : Int32) (l8 : Int32) : Prop :=
  ((65536 ≤ l8 → Q l6) ∧ (¬ 65536 ≤ l8 → FJ6_bitCount_0f7a4 (fun (r2 : Int32) => FJ6_bitCount_0f7a4 (fun (r3 : Int32) => ((r3 ≤ r2 → NX7_fewestFor_84 Q B52 l0 l2 l4 l5 l6 l7 l8 (l4 ||| l7) 0 M) ∧ (¬ r3 ≤ r2 → NX7_fewestFor_84 Q B52 l0 l2 l4 l5 l6 l7 l8 (l4 ||| l7) 1 M))) l6 M) (l4 ||| l7) M))
def NX7_fewestFor_52 (Q : Int32 → Prop) (l0 : Nat) (l2 : Int32) (l4 : Int32) (l5 : Int32) (l6 : Int32) (l7 : Int32) (l8 : Int32) (M : Mem) : Prop := xlp (fun (B : Int32 × Int32 × Int32 → Prop) a => lbX7_fewestFor_52 Q l0 l2 l4 l5 M (fun l6 l7 l8 => B (l6, l7, l8)) a.1 a.2.1 a.2.2) (l6, l7, l8)
theorem nX7_fewestFor_52 {Q : Int32 → Prop} {l0 : Nat} {l2 : Int32} {l4 : Int32} {l5 : Int32} {l6 : Int32} {l7 : Int32} {l8 : Int32} {M : Mem} (hk_l0 : SHk l0 = 7) (h : NX7_fewestFor_52 Q l0 l2 l4 l5 l6 l7 l8 M) : xX RX7 cX7_fewestFor 11 (some .int) 3 52 [(0, .ref l0), (2, .int l2), (4, .int l4), (5, .int l5), (6, .int l6), (7, .int l7), (8, .int l8)] [] M (xQi (xP M Q)) := by
  obtain ⟨n, h⟩ := h
  have hB52 : ∀ (n : Nat) (l6 : Int32) (l7 : Int32) (l8 : Int32), xlpn (fun (B : Int32 × Int32 × Int32 → Prop) a => lbX7_fewestFor_52 Q l0 l2 l4 l5 M (fun l6 l7 l8 => B (l6, l7, l8)) a.1 a.2.1 a.2.2) n (l6, l7, l8) → xX RX7 cX7_fewestFor 11 (some .int) 3 52 [(0, .ref l0), (2, .int l2), (4, .int l4), (5, .int l5), (6, .int l6), (7, .int l7), (8, .int l8)] [] M (xQi (xP M Q)) := by
    intro n
    induction n with
    | zero => intro l6 l7 l8 h; exact False.elim h
    | succ n ih =>
      intro l6 l7 l8 h
      have hB52 := ih
      have h : lbX7_fewestFor_52 Q l0 l2 l4 l5 M (fun l6 l7 l8 => xlpn (fun (B : Int32 × Int32 × Int32 → Prop) a => lbX7_fewestFor_52 Q l0 l2 l4 l5 M (fun l6 l7 l8 => B (l6, l7, l8)) a.1 a.2.1 a.2.2) n (l6, l7, l8)) l6 l7 l8 := h
      unfold lbX7_fewestFor_52 at h
      refine x_iload dX7_fewestFor_52 rfl 54 rfl ?_
      refine x_ldc dX7_fewestFor_54 kw5_33 56 rfl ?_
      refine x_icmp_ge dX7_fewestFor_56 133 59 rfl rfl (fun hc => ?_) (fun hc => ?_)
      · have h := h.1 hc
        refine x_iload dX7_fewestFor_133 rfl 135 rfl ?_
        exact x_iret dX7_fewestFor_135 ⟨rfl, h⟩
      · have h := h.2 hc
        refine x_iload dX7_fewestFor_59 rfl 61 rfl ?_
        refine x_iload dX7_fewestFor_61 rfl 63 rfl ?_
        refine x_ior dX7_fewestFor_63 64 rfl ?_
        refine x_istore dX7_fewestFor_64 (Nat.le_of_ble_eq_true rfl) [(0, .ref l0), (2, .int l2), (4, .int l4), (5, .int l5), (6, .int l6), (7, .int l7), (8, .int l8), (9, .int (l4 ||| l7))] rfl 66 rfl ?_
        refine x_iload dX7_fewestFor_66 rfl 68 rfl ?_
        refine kJ6_bitCount_0f7a4 dX7_fewestFor_68 71 rfl kw5_34 (Nat.le_of_ble_eq_true rfl) (Nat.le_of_ble_eq_true rfl) h (fun r2 h => ?_)
        refine x_iload dX7_fewestFor_71 rfl 73 rfl ?_
        refine kJ6_bitCount_0f7a4 dX7_fewestFor_73 76 rfl kw5_34 (Nat.le_of_ble_eq_true rfl) (Nat.le_of_ble_eq_true rfl) h (fun r3 h => ?_)
        refine x_icmp_ge dX7_fewestFor_76 83 79 rfl rfl (fun hc => ?_) (fun hc => ?_)
        · have h := h.1 hc
          refine x_iconst dX7_fewestFor_83 kc_0 84 rfl ?_
          exact nX7_fewestFor_84 hB52 hk_l0 h
        · have h := h.2 hc
          refine x_iconst dX7_fewestFor_79 kc_1 80 rfl ?_
          refine x_goto dX7_fewestFor_80 84 rfl ?_
          exact nX7_fewestFor_84 hB52 hk_l0 h
  exact hB52 n l6 l7 l8 h
def FX7_fewestFor (Q : Int32 → Prop) (l0 : Nat) (l1 : Int32) (M : Mem) : Prop :=
  ∀ y4 : Int32, y4 = (1 : Int32) <<< (l1 &&& 31) → FX7_leadingTo (fun (r5 : Int32) => ∀ y6 : Int32, y6 = r5 &&& (y4 ^^^ (-1)) → FX7_closure (fun (r7 : Int32) => ((¬ (r7 &&& y4) = 0 → FX7_neededOf (fun (r8 : Int32) => ∀ y9 : Int32, y9 = y6 &&& (r8 ^^^ (-1)) → NX7_fewestFor_52 Q l0 y4 r8 y9 y6 0 0 M) l0 y6 y4 M) ∧ ((r7 &&& y4) = 0 → Q 0))) l0 y6 (-1) M) l0 y4 M
theorem eX7_fewestFor {Q : Int32 → Prop} {l0 : Nat} {l1 : Int32} {M : Mem} (hk_l0 : SHk l0 = 7) (h : FX7_fewestFor Q l0 l1 M) : xX RX7 cX7_fewestFor 11 (some .int) 3 0 [(0, .ref l0), (1, .int l1)] [] M (xQi (xP M Q)) := by
  unfold FX7_fewestFor at h
  refine x_iconst dX7_fewestFor_0 kc_1 1 rfl ?_
  refine x_iload_n dX7_fewestFor_1 rfl 2 rfl ?_
  refine x_ishl dX7_fewestFor_2 3 rfl ?_
  refine x_top (fun y4 hy4 => ?_)
  have h := h y4 hy4
  refine x_istore_n dX7_fewestFor_3 (Nat.le_of_ble_eq_true rfl) [(0, .ref l0), (1, .int l1), (2, .int y4)] rfl 4 rfl ?_
  refine x_aload_n dX7_fewestFor_4 rfl 5 rfl ?_
  refine x_iload_n dX7_fewestFor_5 rfl 6 rfl ?_
  refine kX7_leadingTo dX7_fewestFor_6 9 rfl hk_l0 kw5_25 (Nat.le_of_ble_eq_true rfl) (Nat.le_of_ble_eq_true rfl) h (fun r5 h => ?_)
  refine x_iload_n dX7_fewestFor_9 rfl 10 rfl ?_
  refine x_iconst dX7_fewestFor_10 kc_m1 11 rfl ?_
  refine x_ixor dX7_fewestFor_11 12 rfl ?_
  refine x_iand dX7_fewestFor_12 13 rfl ?_
  refine x_top (fun y6 hy6 => ?_)
  have h := h y6 hy6
  refine x_istore_n dX7_fewestFor_13 (Nat.le_of_ble_eq_true rfl) [(0, .ref l0), (1, .int l1), (2, .int y4), (3, .int y6)] rfl 14 rfl ?_
  refine x_aload_n dX7_fewestFor_14 rfl 15 rfl ?_
  refine x_iload_n dX7_fewestFor_15 rfl 16 rfl ?_
  refine x_iconst dX7_fewestFor_16 kc_m1 17 rfl ?_
  refine kX7_closure dX7_fewestFor_17 20 rfl hk_l0 kw5_20 (Nat.le_of_ble_eq_true rfl) (Nat.le_of_ble_eq_true rfl) h (fun r7 h => ?_)
  refine x_iload_n dX7_fewestFor_20 rfl 21 rfl ?_
  refine x_iand dX7_fewestFor_21 22 rfl ?_
  refine x_if_ne dX7_fewestFor_22 27 25 rfl rfl (fun hc => ?_) (fun hc => ?_)
  · have h := h.1 hc
    refine x_aload_n dX7_fewestFor_27 rfl 28 rfl ?_
    refine x_iload_n dX7_fewestFor_28 rfl 29 rfl ?_
    refine x_iload_n dX7_fewestFor_29 rfl 30 rfl ?_
    refine kX7_neededOf dX7_fewestFor_30 33 rfl hk_l0 kw5_29 (Nat.le_of_ble_eq_true rfl) (Nat.le_of_ble_eq_true rfl) h (fun r8 h => ?_)
    refine x_istore dX7_fewestFor_33 (Nat.le_of_ble_eq_true rfl) [(0, .ref l0), (1, .int l1), (2, .int y4), (3, .int y6), (4, .int r8)] rfl 35 rfl ?_
    refine x_iload_n dX7_fewestFor_35 rfl 36 rfl ?_
    refine x_iload dX7_fewestFor_36 rfl 38 rfl ?_
    refine x_iconst dX7_fewestFor_38 kc_m1 39 rfl ?_
    refine x_ixor dX7_fewestFor_39 40 rfl ?_
    refine x_iand dX7_fewestFor_40 41 rfl ?_
    refine x_top (fun y9 hy9 => ?_)
    have h := h y9 hy9
    refine x_istore dX7_fewestFor_41 (Nat.le_of_ble_eq_true rfl) [(0, .ref l0), (1, .int l1), (2, .int y4), (3, .int y6), (4, .int r8), (5, .int y9)] rfl 43 rfl ?_
    refine x_iload_n dX7_fewestFor_43 rfl 44 rfl ?_
    refine x_istore dX7_fewestFor_44 (Nat.le_of_ble_eq_true rfl) [(0, .ref l0), (1, .int l1), (2, .int y4), (3, .int y6), (4, .int r8), (5, .int y9), (6, .int y6)] rfl 46 rfl ?_
    refine x_iconst dX7_fewestFor_46 kc_0 47 rfl ?_
    refine x_istore dX7_fewestFor_47 (Nat.le_of_ble_eq_true rfl) [(0, .ref l0), (1, .int l1), (2, .int y4), (3, .int y6), (4, .int r8), (5, .int y9), (6, .int y6), (7, .int 0)] rfl 49 rfl ?_
    refine x_iconst dX7_fewestFor_49 kc_0 50 rfl ?_
    refine x_istore dX7_fewestFor_50 (Nat.le_of_ble_eq_true rfl) [(0, .ref l0), (1, .int l1), (2, .int y4), (3, .int y6), (4, .int r8), (5, .int y9), (6, .int y6), (7, .int 0), (8, .int 0)] rfl 52 rfl ?_
    refine x_weak [(0, .ref l0), (2, .int y4), (4, .int r8), (5, .int y9), (6, .int y6), (7, .int 0), (8, .int 0)] [0, 2, 4, 5, 6, 7, 8] rfl ?_
    exact nX7_fewestFor_52 hk_l0 h
  · have h := h.2 hc
    refine x_iconst dX7_fewestFor_25 kc_0 26 rfl ?_
    exact x_iret dX7_fewestFor_26 ⟨rfl, h⟩
theorem cX7_fewestFor_ {Q : Int32 → Prop} {l0 : Nat} {l1 : Int32} {M : Mem} (hk_l0 : SHk l0 = 7) (h : FX7_fewestFor Q l0 l1 M) : xM yX7_fewestFor cX7_fewestFor 11 (some .int) 3 [.ref l0, .int l1] M (xQi (xP M Q)) := xM_of (by decide +kernel) (Nat.le_of_ble_eq_true rfl) (eX7_fewestFor hk_l0 h)
theorem kX7_fewestFor {own : String} {cc : ByteArray} {nL : Nat} {rt : Option FieldType} {d pc ix : Nat} {L : List (Nat × Value)} {st : List Value} {M : Mem} {Rt : xGt → Array Value → State → Outcome → State → Prop} {Q : Int32 → Prop} {l0 : Nat} {l1 : Int32} (hd : decode cc pc = .ok (.invokevirtual ix, 3)) (q : Nat) (hq : pc + 3 = q) (hk_l0 : SHk l0 = 7) (w1 : Cond.methodLink own ix yX7_fewestFor ∈ xTs) (hr : 3 < d) (hst : (st.map fun v => v.category).sum ≤ 8) (h : FX7_fewestFor Q l0 l1 M) (k : ∀ (r : Int32), Q r → xX own cc nL rt d q L (.int r :: st) M Rt) : xX own cc nL rt d pc L (.int l1 :: .ref l0 :: st) M Rt :=
  x_callV_i (n := 1) (As := [.int l1]) hd q hq hk_l0 (by decide) rfl rfl w1 kw5_22 kw5_23 kw1_8 kw5_24 (by decide +kernel) rfl hr (by decide) hst _ rfl (cX7_fewestFor_ hk_l0 h) (fun r N hN => by obtain ⟨rfl, hN⟩ := hN; exact k r hN)
def FX9_addPillar (Q : Int32 → Mem → Prop) (l0 : Nat) (l1 : Int32) (M : Mem) : Prop :=
  (((M l0 10) < 10 → vp_in (M l0 10) 10 ∧ ∀ M1 : Mem, M1 = xu M (l0 + 1) (ix (M l0 10)) l1 → vp_in (M l0 10) 10 ∧ ∀ M2 : Mem, M2 = xu M1 (l0 + 2) (ix (M l0 10)) (-1) → vp_in (M l0 10) 10 ∧ ∀ M3 : Mem, M3 = xu M2 (l0 + 3) (ix (M l0 10)) (-100) → ∀ M4 : Mem, M4 = xu M3 l0 10 ((M3 l0 10) + 1) → FX9_climb (fun (M5 : Mem) => Q (M l0 10) M5) l0 M4) ∧ (¬ (M l0 10) < 10 → Q (-1) M))
theorem eX9_addPillar {Q : Int32 → Mem → Prop} {l0 : Nat} {l1 : Int32} {M : Mem} (hk_l0 : SHk l0 = 9) (h : FX9_addPillar Q l0 l1 M) : xX RX9 cX9_addPillar 3 (some .int) 4 0 [(0, .ref l0), (1, .int l1)] [] M (xQi Q) := by
  unfold FX9_addPillar at h
  refine x_aload_n dX9_addPillar_0 rfl 1 rfl ?_
  refine gf9_10 dX9_addPillar_1 4 rfl hk_l0 kw1_68 ?_
  refine x_bipush dX9_addPillar_4 kb_10 6 rfl ?_
  refine x_icmp_lt dX9_addPillar_6 11 9 rfl rfl (fun hc => ?_) (fun hc => ?_)
  · have h := h.1 hc
    refine x_aload_n dX9_addPillar_11 rfl 12 rfl ?_
    refine gf9_10 dX9_addPillar_12 15 rfl hk_l0 kw1_68 ?_
    refine x_istore_n dX9_addPillar_15 (Nat.le_of_ble_eq_true rfl) [(0, .ref l0), (1, .int l1), (2, .int (M l0 10))] rfl 16 rfl ?_
    refine x_aload_n dX9_addPillar_16 rfl 17 rfl ?_
    refine gf9_1 dX9_addPillar_17 20 rfl hk_l0 kw1_46 ?_
    refine x_iload_n dX9_addPillar_20 rfl 21 rfl ?_
    refine x_iload_n dX9_addPillar_21 rfl 22 rfl ?_
    obtain ⟨hin, h⟩ := h
    refine x_iastore dX9_addPillar_22 (ly9_1 hk_l0) hin 23 rfl (x_mem (fun M1 hM1 => ?_))
    have h := h M1 hM1
    refine x_aload_n dX9_addPillar_23 rfl 24 rfl ?_
    refine gf9_2 dX9_addPillar_24 27 rfl hk_l0 kw1_50 ?_
    refine x_iload_n dX9_addPillar_27 rfl 28 rfl ?_
    refine x_iconst dX9_addPillar_28 kc_m1 29 rfl ?_
    obtain ⟨hin, h⟩ := h
    refine x_iastore dX9_addPillar_29 (ly9_2 hk_l0) hin 30 rfl (x_mem (fun M2 hM2 => ?_))
    have h := h M2 hM2
    refine x_aload_n dX9_addPillar_30 rfl 31 rfl ?_
    refine gf9_3 dX9_addPillar_31 34 rfl hk_l0 kw1_52 ?_
    refine x_iload_n dX9_addPillar_34 rfl 35 rfl ?_
    refine x_bipush dX9_addPillar_35 kb_m100 37 rfl ?_
    obtain ⟨hin, h⟩ := h
    refine x_iastore dX9_addPillar_37 (ly9_3 hk_l0) hin 38 rfl (x_mem (fun M3 hM3 => ?_))
    have h := h M3 hM3
    refine x_aload_n dX9_addPillar_38 rfl 39 rfl ?_
    refine x_dup dX9_addPillar_39 rfl 40 rfl ?_
    refine gf9_10 dX9_addPillar_40 43 rfl hk_l0 kw1_68 ?_
    refine x_iconst dX9_addPillar_43 kc_1 44 rfl ?_
    refine x_iadd dX9_addPillar_44 45 rfl ?_
    refine pf9_10 dX9_addPillar_45 48 rfl hk_l0 kw1_68 (x_mem (fun M4 hM4 => ?_))
    have h := h M4 hM4
    refine x_aload_n dX9_addPillar_48 rfl 49 rfl ?_
    refine kX9_climb dX9_addPillar_49 52 rfl hk_l0 kw2_193 (Nat.le_of_ble_eq_true rfl) (Nat.le_of_ble_eq_true rfl) h (fun M5 h => ?_)
    refine x_iload_n dX9_addPillar_52 rfl 53 rfl ?_
    exact x_iret dX9_addPillar_53 h
  · have h := h.2 hc
    refine x_iconst dX9_addPillar_9 kc_m1 10 rfl ?_
    exact x_iret dX9_addPillar_10 h
theorem cX9_addPillar_ {Q : Int32 → Mem → Prop} {l0 : Nat} {l1 : Int32} {M : Mem} (hk_l0 : SHk l0 = 9) (h : FX9_addPillar Q l0 l1 M) : xM yX9_addPillar cX9_addPillar 3 (some .int) 4 [.ref l0, .int l1] M (xQi Q) := xM_of (by decide +kernel) (Nat.le_of_ble_eq_true rfl) (eX9_addPillar hk_l0 h)
theorem kX9_addPillar {own : String} {cc : ByteArray} {nL : Nat} {rt : Option FieldType} {d pc ix : Nat} {L : List (Nat × Value)} {st : List Value} {M : Mem} {Rt : xGt → Array Value → State → Outcome → State → Prop} {Q : Int32 → Mem → Prop} {l0 : Nat} {l1 : Int32} (hd : decode cc pc = .ok (.invokevirtual ix, 3)) (q : Nat) (hq : pc + 3 = q) (hk_l0 : SHk l0 = 9) (w1 : Cond.methodLink own ix yX9_addPillar ∈ xTs) (hr : 4 < d) (hst : (st.map fun v => v.category).sum ≤ 8) (h : FX9_addPillar Q l0 l1 M) (k : ∀ (r : Int32) (N : Mem), Q r N → xX own cc nL rt d q L (.int r :: st) N Rt) : xX own cc nL rt d pc L (.int l1 :: .ref l0 :: st) M Rt :=
  x_callV_i (n := 1) (As := [.int l1]) hd q hq hk_l0 (by decide) rfl rfl w1 kw2_190 kw2_191 kw1_3 kw2_192 (by decide +kernel) rfl hr (by decide) hst _ rfl (cX9_addPillar_ hk_l0 h) k
def FX9_addSaint (Q : Int32 → Mem → Prop) (l0 : Nat) (l1 : Int32) (l2 : Int32) (l3 : Int32) (M : Mem) : Prop :=
  (((M l0 11) < 14 → vp_in (M l0 11) 14 ∧ ∀ M1 : Mem, M1 = xu M (l0 + 4) (ix (M l0 11)) l1 → vp_in (M l0 11) 14 ∧ ∀ M2 : Mem, M2 = xu M1 (l0 + 5) (ix (M l0 11)) l2 → vp_in (M l0 11) 14 ∧ ∀ M3 : Mem, M3 = xu M2 (l0 + 6) (ix (M l0 11)) l3 → vp_in (M l0 11) 14 ∧ ∀ M4 : Mem, M4 = xu M3 (l0 + 7) (ix (M l0 11)) 0 → ∀ M5 : Mem, M5 = xu M4 l0 11 ((M4 l0 11) + 1) → FX9_joinGround (fun (M6 : Mem) => FX9_climb (fun (M7 : Mem) => Q (M l0 11) M7) l0 M6) l0 (M l0 11) M5) ∧ (¬ (M l0 11) < 14 → Q (-1) M))
theorem eX9_addSaint {Q : Int32 → Mem → Prop} {l0 : Nat} {l1 : Int32} {l2 : Int32} {l3 : Int32} {M : Mem} (hk_l0 : SHk l0 = 9) (h : FX9_addSaint Q l0 l1 l2 l3 M) : xX RX9 cX9_addSaint 5 (some .int) 4 0 [(0, .ref l0), (1, .int l1), (2, .int l2), (3, .int l3)] [] M (xQi Q) := by
  unfold FX9_addSaint at h
  refine x_aload_n dX9_addSaint_0 rfl 1 rfl ?_
  refine gf9_11 dX9_addSaint_1 4 rfl hk_l0 kw1_72 ?_
  refine x_bipush dX9_addSaint_4 kb_14 6 rfl ?_
  refine x_icmp_lt dX9_addSaint_6 11 9 rfl rfl (fun hc => ?_) (fun hc => ?_)
  · have h := h.1 hc
    refine x_aload_n dX9_addSaint_11 rfl 12 rfl ?_
    refine gf9_11 dX9_addSaint_12 15 rfl hk_l0 kw1_72 ?_
    refine x_istore dX9_addSaint_15 (Nat.le_of_ble_eq_true rfl) [(0, .ref l0), (1, .int l1), (2, .int l2), (3, .int l3), (4, .int (M l0 11))] rfl 17 rfl ?_
    refine x_aload_n dX9_addSaint_17 rfl 18 rfl ?_
    refine gf9_4 dX9_addSaint_18 21 rfl hk_l0 kw1_55 ?_
    refine x_iload dX9_addSaint_21 rfl 23 rfl ?_
    refine x_iload_n dX9_addSaint_23 rfl 24 rfl ?_
    obtain ⟨hin, h⟩ := h
    refine x_iastore dX9_addSaint_24 (ly9_4 hk_l0) hin 25 rfl (x_mem (fun M1 hM1 => ?_))
    have h := h M1 hM1
    refine x_aload_n dX9_addSaint_25 rfl 26 rfl ?_
    refine gf9_5 dX9_addSaint_26 29 rfl hk_l0 kw1_58 ?_
    refine x_iload dX9_addSaint_29 rfl 31 rfl ?_
    refine x_iload_n dX9_addSaint_31 rfl 32 rfl ?_
    obtain ⟨hin, h⟩ := h
    refine x_iastore dX9_addSaint_32 (ly9_5 hk_l0) hin 33 rfl (x_mem (fun M2 hM2 => ?_))
    have h := h M2 hM2
    refine x_aload_n dX9_addSaint_33 rfl 34 rfl ?_
    refine gf9_6 dX9_addSaint_34 37 rfl hk_l0 kw1_60 ?_
    refine x_iload dX9_addSaint_37 rfl 39 rfl ?_
    refine x_iload_n dX9_addSaint_39 rfl 40 rfl ?_
    obtain ⟨hin, h⟩ := h
    refine x_iastore dX9_addSaint_40 (ly9_6 hk_l0) hin 41 rfl (x_mem (fun M3 hM3 => ?_))
    have h := h M3 hM3
    refine x_aload_n dX9_addSaint_41 rfl 42 rfl ?_
    refine gf9_7 dX9_addSaint_42 45 rfl hk_l0 kw1_63 ?_
    refine x_iload dX9_addSaint_45 rfl 47 rfl ?_
    refine x_iconst dX9_addSaint_47 kc_0 48 rfl ?_
    obtain ⟨hin, h⟩ := h
    refine x_iastore dX9_addSaint_48 (ly9_7 hk_l0) hin 49 rfl (x_mem (fun M4 hM4 => ?_))
    have h := h M4 hM4
    refine x_aload_n dX9_addSaint_49 rfl 50 rfl ?_
    refine x_dup dX9_addSaint_50 rfl 51 rfl ?_
    refine gf9_11 dX9_addSaint_51 54 rfl hk_l0 kw1_72 ?_
    refine x_iconst dX9_addSaint_54 kc_1 55 rfl ?_
    refine x_iadd dX9_addSaint_55 56 rfl ?_
    refine pf9_11 dX9_addSaint_56 59 rfl hk_l0 kw1_72 (x_mem (fun M5 hM5 => ?_))
    have h := h M5 hM5
    refine x_aload_n dX9_addSaint_59 rfl 60 rfl ?_
    refine x_iload dX9_addSaint_60 rfl 62 rfl ?_
    refine kX9_joinGround dX9_addSaint_62 65 rfl hk_l0 kw2_220 (Nat.le_of_ble_eq_true rfl) (Nat.le_of_ble_eq_true rfl) h (fun M6 h => ?_)
    refine x_aload_n dX9_addSaint_65 rfl 66 rfl ?_
    refine kX9_climb dX9_addSaint_66 69 rfl hk_l0 kw2_193 (Nat.le_of_ble_eq_true rfl) (Nat.le_of_ble_eq_true rfl) h (fun M7 h => ?_)
    refine x_iload dX9_addSaint_69 rfl 71 rfl ?_
    exact x_iret dX9_addSaint_71 h
  · have h := h.2 hc
    refine x_iconst dX9_addSaint_9 kc_m1 10 rfl ?_
    exact x_iret dX9_addSaint_10 h
theorem cX9_addSaint_ {Q : Int32 → Mem → Prop} {l0 : Nat} {l1 : Int32} {l2 : Int32} {l3 : Int32} {M : Mem} (hk_l0 : SHk l0 = 9) (h : FX9_addSaint Q l0 l1 l2 l3 M) : xM yX9_addSaint cX9_addSaint 5 (some .int) 4 [.ref l0, .int l1, .int l2, .int l3] M (xQi Q) := xM_of (by decide +kernel) (Nat.le_of_ble_eq_true rfl) (eX9_addSaint hk_l0 h)
theorem kX9_addSaint {own : String} {cc : ByteArray} {nL : Nat} {rt : Option FieldType} {d pc ix : Nat} {L : List (Nat × Value)} {st : List Value} {M : Mem} {Rt : xGt → Array Value → State → Outcome → State → Prop} {Q : Int32 → Mem → Prop} {l0 : Nat} {l1 : Int32} {l2 : Int32} {l3 : Int32} (hd : decode cc pc = .ok (.invokevirtual ix, 3)) (q : Nat) (hq : pc + 3 = q) (hk_l0 : SHk l0 = 9) (w1 : Cond.methodLink own ix yX9_addSaint ∈ xTs) (hr : 4 < d) (hst : (st.map fun v => v.category).sum ≤ 8) (h : FX9_addSaint Q l0 l1 l2 l3 M) (k : ∀ (r : Int32) (N : Mem), Q r N → xX own cc nL rt d q L (.int r :: st) N Rt) : xX own cc nL rt d pc L (.int l3 :: .int l2 :: .int l1 :: .ref l0 :: st) M Rt :=
  x_callV_i (n := 3) (As := [.int l1, .int l2, .int l3]) hd q hq hk_l0 (by decide) rfl rfl w1 kw2_217 kw2_218 kw1_3 kw2_219 (by decide +kernel) rfl hr (by decide) hst _ rfl (cX9_addSaint_ hk_l0 h) k
def FX11_within (Q : Bool → Prop) (l0 : Int32) (l1 : Int32) (l2 : Int32) (M : Mem) : Prop :=
  ((l0 < l1 → Q false) ∧ (¬ l0 < l1 → ((l2 < l0 → Q false) ∧ (¬ l2 < l0 → Q true))))
theorem eX11_within {Q : Bool → Prop} {l0 : Int32} {l1 : Int32} {l2 : Int32} {M : Mem} (h : FX11_within Q l0 l1 l2 M) : xX RX11 cX11_within 3 (some .boolean) 1 0 [(0, .int l0), (1, .int l1), (2, .int l2)] [] M (xQb (xP M Q)) := by
  unfold FX11_within at h
  refine x_iload_n dX11_within_0 rfl 1 rfl ?_
  refine x_iload_n dX11_within_1 rfl 2 rfl ?_
  refine x_icmp_lt dX11_within_2 14 5 rfl rfl (fun hc => ?_) (fun hc => ?_)
  · have h := h.1 hc
    refine x_iconst dX11_within_14 kc_0 15 rfl ?_
    exact x_zret (z := false) dX11_within_15 ⟨rfl, h⟩
  · have h := h.2 hc
    refine x_iload_n dX11_within_5 rfl 6 rfl ?_
    refine x_iload_n dX11_within_6 rfl 7 rfl ?_
    refine x_icmp_gt dX11_within_7 14 10 rfl rfl (fun hc => ?_) (fun hc => ?_)
    · have h := h.1 hc
      refine x_iconst dX11_within_14 kc_0 15 rfl ?_
      exact x_zret (z := false) dX11_within_15 ⟨rfl, h⟩
    · have h := h.2 hc
      refine x_iconst dX11_within_10 kc_1 11 rfl ?_
      refine x_goto dX11_within_11 15 rfl ?_
      exact x_zret (z := true) dX11_within_15 ⟨rfl, h⟩
theorem cX11_within_ {Q : Bool → Prop} {l0 : Int32} {l1 : Int32} {l2 : Int32} {M : Mem} (h : FX11_within Q l0 l1 l2 M) : xM yX11_within cX11_within 3 (some .boolean) 1 [.int l0, .int l1, .int l2] M (xQb (xP M Q)) := xM_of (by decide +kernel) (Nat.le_of_ble_eq_true rfl) (eX11_within h)
theorem kX11_within {own : String} {cc : ByteArray} {nL : Nat} {rt : Option FieldType} {d pc ix : Nat} {L : List (Nat × Value)} {st : List Value} {M : Mem} {Rt : xGt → Array Value → State → Outcome → State → Prop} {Q : Bool → Prop} {l0 : Int32} {l1 : Int32} {l2 : Int32} (hd : decode cc pc = .ok (.invokestatic ix, 3)) (q : Nat) (hq : pc + 3 = q) (w1 : Cond.methodLink own ix yX11_within ∈ xTs) (hr : 1 < d) (hst : (st.map fun v => v.category).sum ≤ 8) (h : FX11_within Q l0 l1 l2 M) (k : ∀ (r : Bool), Q r → xX own cc nL rt d q L (.int (bI r) :: st) M Rt) : xX own cc nL rt d pc L (.int l2 :: .int l1 :: .int l0 :: st) M Rt :=
  x_callS_b (n := 3) (As := [.int l0, .int l1, .int l2]) hd q hq w1 kw2_214 kw1_1 kw2_215 (by decide +kernel) rfl hr (by decide) hst _ rfl (cX11_within_ h) (fun r N hN => by obtain ⟨rfl, hN⟩ := hN; exact k r hN)
theorem kX11_withinn {own : String} {cc : ByteArray} {nL : Nat} {rt : Option FieldType} {d pc ix : Nat} {L : List (Nat × Value)} {st : List Value} {M : Mem} {Rt : xGt → Array Value → State → Outcome → State → Prop} {Q : Bool → Prop} {l0 : Int32} {l1 : Int32} {l2 : Int32} (hd : decode cc pc = .ok (.invokestatic ix, 3)) (q : Nat) (hq : pc + 3 = q) (w1 : Cond.methodLinkNest own ix yX11_within "PillarSaints" ∈ tables_1) (hr : 1 < d) (hst : (st.map fun v => v.category).sum ≤ 8) (h : FX11_within Q l0 l1 l2 M) (k : ∀ (r : Bool), Q r → xX own cc nL rt d q L (.int (bI r) :: st) M Rt) : xX own cc nL rt d pc L (.int l2 :: .int l1 :: .int l0 :: st) M Rt :=
  x_callN_b (n := 3) (As := [.int l0, .int l1, .int l2]) hd q hq w1 kw2_214 kw1_1 kw2_215 (by decide +kernel) rfl hr (by decide) hst _ rfl (cX11_within_ h) (fun r N hN => by obtain ⟨rfl, hN⟩ := hN; exact k r hN)
def NX9_change_109 (Q : Bool → Mem → Prop) (l0 : Nat) (l1 : Int32) (l2 : Int32) (l3 : Int32) (M : Mem) : Prop :=
  ((¬ l1 = 3 → Q false M) ∧ (l1 = 3 → FX11_within (fun (r1 : Bool) => ((r1 = false → Q false M) ∧ (r1 = true → vp_in l2 14 ∧ ∀ M2 : Mem, M2 = xu M (l0 + 7) (ix l2) l3 → Q true M2))) l3 0 99 M))
theorem nX9_change_109 {Q : Bool → Mem → Prop} {l0 : Nat} {l1 : Int32} {l2 : Int32} {l3 : Int32} {M : Mem} (hk_l0 : SHk l0 = 9) (h : NX9_change_109 Q l0 l1 l2 l3 M) : xX RX9 cX9_change 4 (some .boolean) 2 109 [(0, .ref l0), (1, .int l1), (2, .int l2), (3, .int l3)] [] M (xQb Q) := by
  unfold NX9_change_109 at h
  refine x_iload_n dX9_change_109 rfl 110 rfl ?_
  refine x_iconst dX9_change_110 kc_3 111 rfl ?_
  refine x_icmp_ne dX9_change_111 134 114 rfl rfl (fun hc => ?_) (fun hc => ?_)
  · have h := h.1 hc
    refine x_iconst dX9_change_134 kc_0 135 rfl ?_
    exact x_zret (z := false) dX9_change_135 h
  · have h := h.2 hc
    refine x_iload_n dX9_change_114 rfl 115 rfl ?_
    refine x_iconst dX9_change_115 kc_0 116 rfl ?_
    refine x_bipush dX9_change_116 kb_99 118 rfl ?_
    refine kX11_withinn dX9_change_118 121 rfl kn2_232 (Nat.le_of_ble_eq_true rfl) (Nat.le_of_ble_eq_true rfl) h (fun r1 h => ?_)
    refine x_if_eq_b dX9_change_121 134 124 rfl rfl (fun hc => ?_) (fun hc => ?_)
    · have h := h.1 hc
      refine x_iconst dX9_change_134 kc_0 135 rfl ?_
      exact x_zret (z := false) dX9_change_135 h
    · have h := h.2 hc
      refine x_aload_n dX9_change_124 rfl 125 rfl ?_
      refine gf9_7 dX9_change_125 128 rfl hk_l0 kw1_63 ?_
      refine x_iload_n dX9_change_128 rfl 129 rfl ?_
      refine x_iload_n dX9_change_129 rfl 130 rfl ?_
      obtain ⟨hin, h⟩ := h
      refine x_iastore dX9_change_130 (ly9_7 hk_l0) hin 131 rfl (x_mem (fun M2 hM2 => ?_))
      have h := h M2 hM2
      refine x_goto dX9_change_131 136 rfl ?_
      refine x_iconst dX9_change_136 kc_1 137 rfl ?_
      exact x_zret (z := true) dX9_change_137 h
def NX9_change_83 (Q : Bool → Mem → Prop) (l0 : Nat) (l1 : Int32) (l2 : Int32) (l3 : Int32) (M : Mem) : Prop :=
  ((¬ l1 = 2 → NX9_change_109 Q l0 l1 l2 l3 M) ∧ (l1 = 2 → FX11_within (fun (r3 : Bool) => ((r3 = false → NX9_change_109 Q l0 l1 l2 l3 M) ∧ (r3 = true → vp_in l2 14 ∧ ∀ M4 : Mem, M4 = xu M (l0 + 6) (ix l2) l3 → Q true M4))) l3 (-99) 99 M))
theorem nX9_change_83 {Q : Bool → Mem → Prop} {l0 : Nat} {l1 : Int32} {l2 : Int32} {l3 : Int32} {M : Mem} (hk_l0 : SHk l0 = 9) (h : NX9_change_83 Q l0 l1 l2 l3 M) : xX RX9 cX9_change 4 (some .boolean) 2 83 [(0, .ref l0), (1, .int l1), (2, .int l2), (3, .int l3)] [] M (xQb Q) := by
  unfold NX9_change_83 at h
  refine x_iload_n dX9_change_83 rfl 84 rfl ?_
  refine x_iconst dX9_change_84 kc_2 85 rfl ?_
  refine x_icmp_ne dX9_change_85 109 88 rfl rfl (fun hc => ?_) (fun hc => ?_)
  · have h := h.1 hc
    exact nX9_change_109 hk_l0 h
  · have h := h.2 hc
    refine x_iload_n dX9_change_88 rfl 89 rfl ?_
    refine x_bipush dX9_change_89 kb_m99 91 rfl ?_
    refine x_bipush dX9_change_91 kb_99 93 rfl ?_
    refine kX11_withinn dX9_change_93 96 rfl kn2_232 (Nat.le_of_ble_eq_true rfl) (Nat.le_of_ble_eq_true rfl) h (fun r3 h => ?_)
    refine x_if_eq_b dX9_change_96 109 99 rfl rfl (fun hc => ?_) (fun hc => ?_)
    · have h := h.1 hc
      exact nX9_change_109 hk_l0 h
    · have h := h.2 hc
      refine x_aload_n dX9_change_99 rfl 100 rfl ?_
      refine gf9_6 dX9_change_100 103 rfl hk_l0 kw1_60 ?_
      refine x_iload_n dX9_change_103 rfl 104 rfl ?_
      refine x_iload_n dX9_change_104 rfl 105 rfl ?_
      obtain ⟨hin, h⟩ := h
      refine x_iastore dX9_change_105 (ly9_6 hk_l0) hin 106 rfl (x_mem (fun M4 hM4 => ?_))
      have h := h M4 hM4
      refine x_goto dX9_change_106 136 rfl ?_
      refine x_iconst dX9_change_136 kc_1 137 rfl ?_
      exact x_zret (z := true) dX9_change_137 h
def NX9_change_58 (Q : Bool → Mem → Prop) (l0 : Nat) (l1 : Int32) (l2 : Int32) (l3 : Int32) (M : Mem) : Prop :=
  ((¬ l1 = 1 → NX9_change_83 Q l0 l1 l2 l3 M) ∧ (l1 = 1 → FX11_within (fun (r5 : Bool) => ((r5 = false → NX9_change_83 Q l0 l1 l2 l3 M) ∧ (r5 = true → vp_in l2 14 ∧ ∀ M6 : Mem, M6 = xu M (l0 + 5) (ix l2) l3 → Q true M6))) l3 0 9 M))
theorem nX9_change_58 {Q : Bool → Mem → Prop} {l0 : Nat} {l1 : Int32} {l2 : Int32} {l3 : Int32} {M : Mem} (hk_l0 : SHk l0 = 9) (h : NX9_change_58 Q l0 l1 l2 l3 M) : xX RX9 cX9_change 4 (some .boolean) 2 58 [(0, .ref l0), (1, .int l1), (2, .int l2), (3, .int l3)] [] M (xQb Q) := by
  unfold NX9_change_58 at h
  refine x_iload_n dX9_change_58 rfl 59 rfl ?_
  refine x_iconst dX9_change_59 kc_1 60 rfl ?_
  refine x_icmp_ne dX9_change_60 83 63 rfl rfl (fun hc => ?_) (fun hc => ?_)
  · have h := h.1 hc
    exact nX9_change_83 hk_l0 h
  · have h := h.2 hc
    refine x_iload_n dX9_change_63 rfl 64 rfl ?_
    refine x_iconst dX9_change_64 kc_0 65 rfl ?_
    refine x_bipush dX9_change_65 kb_9 67 rfl ?_
    refine kX11_withinn dX9_change_67 70 rfl kn2_232 (Nat.le_of_ble_eq_true rfl) (Nat.le_of_ble_eq_true rfl) h (fun r5 h => ?_)
    refine x_if_eq_b dX9_change_70 83 73 rfl rfl (fun hc => ?_) (fun hc => ?_)
    · have h := h.1 hc
      exact nX9_change_83 hk_l0 h
    · have h := h.2 hc
      refine x_aload_n dX9_change_73 rfl 74 rfl ?_
      refine gf9_5 dX9_change_74 77 rfl hk_l0 kw1_58 ?_
      refine x_iload_n dX9_change_77 rfl 78 rfl ?_
      refine x_iload_n dX9_change_78 rfl 79 rfl ?_
      obtain ⟨hin, h⟩ := h
      refine x_iastore dX9_change_79 (ly9_5 hk_l0) hin 80 rfl (x_mem (fun M6 hM6 => ?_))
      have h := h M6 hM6
      refine x_goto dX9_change_80 136 rfl ?_
      refine x_iconst dX9_change_136 kc_1 137 rfl ?_
      exact x_zret (z := true) dX9_change_137 h
def FX9_change (Q : Bool → Mem → Prop) (l0 : Nat) (l1 : Int32) (l2 : Int32) (l3 : Int32) (M : Mem) : Prop :=
  ((¬ l1 = 4 → FX9_isSaint (fun (r7 : Bool) => ((r7 = true → ((¬ l1 = 0 → NX9_change_58 Q l0 l1 l2 l3 M) ∧ (l1 = 0 → FX11_within (fun (r8 : Bool) => ((r8 = false → NX9_change_58 Q l0 l1 l2 l3 M) ∧ (r8 = true → vp_in l2 14 ∧ ∀ M9 : Mem, M9 = xu M (l0 + 4) (ix l2) l3 → Q true M9))) l3 0 120 M))) ∧ (r7 = false → Q false M))) l0 l2 M) ∧ (l1 = 4 → FX11_within (fun (r10 : Bool) => ((r10 = true → ∀ M11 : Mem, M11 = xu M l0 14 l3 → Q true M11) ∧ (r10 = false → Q false M))) l3 0 9 M))
theorem eX9_change {Q : Bool → Mem → Prop} {l0 : Nat} {l1 : Int32} {l2 : Int32} {l3 : Int32} {M : Mem} (hk_l0 : SHk l0 = 9) (h : FX9_change Q l0 l1 l2 l3 M) : xX RX9 cX9_change 4 (some .boolean) 2 0 [(0, .ref l0), (1, .int l1), (2, .int l2), (3, .int l3)] [] M (xQb Q) := by
  unfold FX9_change at h
  refine x_iload_n dX9_change_0 rfl 1 rfl ?_
  refine x_iconst dX9_change_1 kc_4 2 rfl ?_
  refine x_icmp_ne dX9_change_2 24 5 rfl rfl (fun hc => ?_) (fun hc => ?_)
  · have h := h.1 hc
    refine x_aload_n dX9_change_24 rfl 25 rfl ?_
    refine x_iload_n dX9_change_25 rfl 26 rfl ?_
    refine kX9_isSaint dX9_change_26 29 rfl hk_l0 kw2_233 (Nat.le_of_ble_eq_true rfl) (Nat.le_of_ble_eq_true rfl) h (fun r7 h => ?_)
    refine x_if_ne_b dX9_change_29 34 32 rfl rfl (fun hc => ?_) (fun hc => ?_)
    · have h := h.1 hc
      refine x_iload_n dX9_change_34 rfl 35 rfl ?_
      refine x_if_ne dX9_change_35 58 38 rfl rfl (fun hc => ?_) (fun hc => ?_)
      · have h := h.1 hc
        exact nX9_change_58 hk_l0 h
      · have h := h.2 hc
        refine x_iload_n dX9_change_38 rfl 39 rfl ?_
        refine x_iconst dX9_change_39 kc_0 40 rfl ?_
        refine x_bipush dX9_change_40 kb_120 42 rfl ?_
        refine kX11_withinn dX9_change_42 45 rfl kn2_232 (Nat.le_of_ble_eq_true rfl) (Nat.le_of_ble_eq_true rfl) h (fun r8 h => ?_)
        refine x_if_eq_b dX9_change_45 58 48 rfl rfl (fun hc => ?_) (fun hc => ?_)
        · have h := h.1 hc
          exact nX9_change_58 hk_l0 h
        · have h := h.2 hc
          refine x_aload_n dX9_change_48 rfl 49 rfl ?_
          refine gf9_4 dX9_change_49 52 rfl hk_l0 kw1_55 ?_
          refine x_iload_n dX9_change_52 rfl 53 rfl ?_
          refine x_iload_n dX9_change_53 rfl 54 rfl ?_
          obtain ⟨hin, h⟩ := h
          refine x_iastore dX9_change_54 (ly9_4 hk_l0) hin 55 rfl (x_mem (fun M9 hM9 => ?_))
          have h := h M9 hM9
          refine x_goto dX9_change_55 136 rfl ?_
          refine x_iconst dX9_change_136 kc_1 137 rfl ?_
          exact x_zret (z := true) dX9_change_137 h
    · have h := h.2 hc
      refine x_iconst dX9_change_32 kc_0 33 rfl ?_
      exact x_zret (z := false) dX9_change_33 h
  · have h := h.2 hc
    refine x_iload_n dX9_change_5 rfl 6 rfl ?_
    refine x_iconst dX9_change_6 kc_0 7 rfl ?_
    refine x_bipush dX9_change_7 kb_9 9 rfl ?_
    refine kX11_withinn dX9_change_9 12 rfl kn2_232 (Nat.le_of_ble_eq_true rfl) (Nat.le_of_ble_eq_true rfl) h (fun r10 h => ?_)
    refine x_if_ne_b dX9_change_12 17 15 rfl rfl (fun hc => ?_) (fun hc => ?_)
    · have h := h.1 hc
      refine x_aload_n dX9_change_17 rfl 18 rfl ?_
      refine x_iload_n dX9_change_18 rfl 19 rfl ?_
      refine pf9_14 dX9_change_19 22 rfl hk_l0 kw1_82 (x_mem (fun M11 hM11 => ?_))
      have h := h M11 hM11
      refine x_iconst dX9_change_22 kc_1 23 rfl ?_
      exact x_zret (z := true) dX9_change_23 h
    · have h := h.2 hc
      refine x_iconst dX9_change_15 kc_0 16 rfl ?_
      exact x_zret (z := false) dX9_change_16 h
theorem cX9_change_ {Q : Bool → Mem → Prop} {l0 : Nat} {l1 : Int32} {l2 : Int32} {l3 : Int32} {M : Mem} (hk_l0 : SHk l0 = 9) (h : FX9_change Q l0 l1 l2 l3 M) : xM yX9_change cX9_change 4 (some .boolean) 2 [.ref l0, .int l1, .int l2, .int l3] M (xQb Q) := xM_of (by decide +kernel) (Nat.le_of_ble_eq_true rfl) (eX9_change hk_l0 h)
theorem kX9_change {own : String} {cc : ByteArray} {nL : Nat} {rt : Option FieldType} {d pc ix : Nat} {L : List (Nat × Value)} {st : List Value} {M : Mem} {Rt : xGt → Array Value → State → Outcome → State → Prop} {Q : Bool → Mem → Prop} {l0 : Nat} {l1 : Int32} {l2 : Int32} {l3 : Int32} (hd : decode cc pc = .ok (.invokevirtual ix, 3)) (q : Nat) (hq : pc + 3 = q) (hk_l0 : SHk l0 = 9) (w1 : Cond.methodLink own ix yX9_change ∈ xTs) (hr : 2 < d) (hst : (st.map fun v => v.category).sum ≤ 8) (h : FX9_change Q l0 l1 l2 l3 M) (k : ∀ (r : Bool) (N : Mem), Q r N → xX own cc nL rt d q L (.int (bI r) :: st) N Rt) : xX own cc nL rt d pc L (.int l3 :: .int l2 :: .int l1 :: .ref l0 :: st) M Rt :=
  x_callV_b (n := 3) (As := [.int l1, .int l2, .int l3]) hd q hq hk_l0 (by decide) rfl rfl w1 kw2_229 kw2_230 kw1_3 kw2_231 (by decide +kernel) rfl hr (by decide) hst _ rfl (cX9_change_ hk_l0 h) k
