def FX9_canDo (Q : Bool → Prop) (l0 : Nat) (l1 : Int32) (l2 : Int32) (l3 : Int32) (M : Mem) : Prop :=
  ((l1 = 0 → FX11_within (fun (r1 : Bool) => Q r1) l3 1 999 M) ∧ (l1 = 1 → FX11_within (fun (r2 : Bool) => ((r2 = false → Q false) ∧ (r2 = true → FX9_highest (fun (r3 : Int32) => ((r3 = (-1) → Q false) ∧ (¬ r3 = (-1) → Q true))) l0 M))) l3 (-99) 99 M) ∧ (l1 = 2 → FX9_pillarOf (fun (r4 : Int32) => ((r4 = (-1) → Q false) ∧ (¬ r4 = (-1) → Q true))) l0 l2 M) ∧ (l1 = 3 → FX9_isPillar (fun (r5 : Bool) => ((r5 = false → Q false) ∧ (r5 = true → FX11_within (fun (r6 : Bool) => ((r6 = false → Q false) ∧ (r6 = true → Q true))) l3 1 99 M))) l0 l2 M) ∧ (¬ l1 = 0 → ¬ l1 = 1 → ¬ l1 = 2 → ¬ l1 = 3 → Q false))
theorem eX9_canDo {Q : Bool → Prop} {l0 : Nat} {l1 : Int32} {l2 : Int32} {l3 : Int32} {M : Mem} (hk_l0 : SHk l0 = 9) (h : FX9_canDo Q l0 l1 l2 l3 M) : xX RX9 cX9_canDo 4 (some .boolean) 2 0 [(0, .ref l0), (1, .int l1), (2, .int l2), (3, .int l3)] [] M (xQb (xP M Q)) := by
  unfold FX9_canDo at h
  refine x_iload_n dX9_canDo_0 rfl 1 rfl ?_
  by_cases hc0 : l1 = 0
  · refine x_tab_at dX9_canDo_1 hc0 (by decide) (by decide) rfl (tg := 32) rfl ?_
    have h := h.1 hc0
    refine x_iload_n dX9_canDo_32 rfl 33 rfl ?_
    refine x_iconst dX9_canDo_33 kc_1 34 rfl ?_
    refine x_sipush dX9_canDo_34 kh_999 37 rfl ?_
    refine kX11_withinn dX9_canDo_37 40 rfl kn2_232 (Nat.le_of_ble_eq_true rfl) (Nat.le_of_ble_eq_true rfl) h (fun r1 h => ?_)
    exact x_zret dX9_canDo_40 ⟨rfl, h⟩
  by_cases hc1 : l1 = 1
  · refine x_tab_at dX9_canDo_1 hc1 (by decide) (by decide) rfl (tg := 41) rfl ?_
    have h := h.2.1 hc1
    refine x_iload_n dX9_canDo_41 rfl 42 rfl ?_
    refine x_bipush dX9_canDo_42 kb_m99 44 rfl ?_
    refine x_bipush dX9_canDo_44 kb_99 46 rfl ?_
    refine kX11_withinn dX9_canDo_46 49 rfl kn2_232 (Nat.le_of_ble_eq_true rfl) (Nat.le_of_ble_eq_true rfl) h (fun r2 h => ?_)
    refine x_if_eq_b dX9_canDo_49 64 52 rfl rfl (fun hc => ?_) (fun hc => ?_)
    · have h := h.1 hc
      refine x_iconst dX9_canDo_64 kc_0 65 rfl ?_
      exact x_zret (z := false) dX9_canDo_65 ⟨rfl, h⟩
    · have h := h.2 hc
      refine x_aload_n dX9_canDo_52 rfl 53 rfl ?_
      refine kX9_highest dX9_canDo_53 56 rfl hk_l0 kw3_5 (Nat.le_of_ble_eq_true rfl) (Nat.le_of_ble_eq_true rfl) h (fun r3 h => ?_)
      refine x_iconst dX9_canDo_56 kc_m1 57 rfl ?_
      refine x_icmp_eq dX9_canDo_57 64 60 rfl rfl (fun hc => ?_) (fun hc => ?_)
      · have h := h.1 hc
        refine x_iconst dX9_canDo_64 kc_0 65 rfl ?_
        exact x_zret (z := false) dX9_canDo_65 ⟨rfl, h⟩
      · have h := h.2 hc
        refine x_iconst dX9_canDo_60 kc_1 61 rfl ?_
        refine x_goto dX9_canDo_61 65 rfl ?_
        exact x_zret (z := true) dX9_canDo_65 ⟨rfl, h⟩
  by_cases hc2 : l1 = 2
  · refine x_tab_at dX9_canDo_1 hc2 (by decide) (by decide) rfl (tg := 66) rfl ?_
    have h := h.2.2.1 hc2
    refine x_aload_n dX9_canDo_66 rfl 67 rfl ?_
    refine x_iload_n dX9_canDo_67 rfl 68 rfl ?_
    refine kX9_pillarOf dX9_canDo_68 71 rfl hk_l0 kw3_9 (Nat.le_of_ble_eq_true rfl) (Nat.le_of_ble_eq_true rfl) h (fun r4 h => ?_)
    refine x_iconst dX9_canDo_71 kc_m1 72 rfl ?_
    refine x_icmp_eq dX9_canDo_72 79 75 rfl rfl (fun hc => ?_) (fun hc => ?_)
    · have h := h.1 hc
      refine x_iconst dX9_canDo_79 kc_0 80 rfl ?_
      exact x_zret (z := false) dX9_canDo_80 ⟨rfl, h⟩
    · have h := h.2 hc
      refine x_iconst dX9_canDo_75 kc_1 76 rfl ?_
      refine x_goto dX9_canDo_76 80 rfl ?_
      exact x_zret (z := true) dX9_canDo_80 ⟨rfl, h⟩
  by_cases hc3 : l1 = 3
  · refine x_tab_at dX9_canDo_1 hc3 (by decide) (by decide) rfl (tg := 81) rfl ?_
    have h := h.2.2.2.1 hc3
    refine x_aload_n dX9_canDo_81 rfl 82 rfl ?_
    refine x_iload_n dX9_canDo_82 rfl 83 rfl ?_
    refine kX9_isPillar dX9_canDo_83 86 rfl hk_l0 kw3_13 (Nat.le_of_ble_eq_true rfl) (Nat.le_of_ble_eq_true rfl) h (fun r5 h => ?_)
    refine x_if_eq_b dX9_canDo_86 103 89 rfl rfl (fun hc => ?_) (fun hc => ?_)
    · have h := h.1 hc
      refine x_iconst dX9_canDo_103 kc_0 104 rfl ?_
      exact x_zret (z := false) dX9_canDo_104 ⟨rfl, h⟩
    · have h := h.2 hc
      refine x_iload_n dX9_canDo_89 rfl 90 rfl ?_
      refine x_iconst dX9_canDo_90 kc_1 91 rfl ?_
      refine x_bipush dX9_canDo_91 kb_99 93 rfl ?_
      refine kX11_withinn dX9_canDo_93 96 rfl kn2_232 (Nat.le_of_ble_eq_true rfl) (Nat.le_of_ble_eq_true rfl) h (fun r6 h => ?_)
      refine x_if_eq_b dX9_canDo_96 103 99 rfl rfl (fun hc => ?_) (fun hc => ?_)
      · have h := h.1 hc
        refine x_iconst dX9_canDo_103 kc_0 104 rfl ?_
        exact x_zret (z := false) dX9_canDo_104 ⟨rfl, h⟩
      · have h := h.2 hc
        refine x_iconst dX9_canDo_99 kc_1 100 rfl ?_
        refine x_goto dX9_canDo_100 104 rfl ?_
        exact x_zret (z := true) dX9_canDo_104 ⟨rfl, h⟩
  have h := h.2.2.2.2 hc0 hc1 hc2 hc3
  refine x_tab_out dX9_canDo_1 (by have a0 := lv_neT hc0 (a := 0) (by decide); have a1 := lv_neT hc1 (a := 1) (by decide); have a2 := lv_neT hc2 (a := 2) (by decide); have a3 := lv_neT hc3 (a := 3) (by decide); show (l1 : Int32).toInt < 0 ∨ 3 < (l1 : Int32).toInt; omega) (tg := 105) rfl ?_
  refine x_iconst dX9_canDo_105 kc_0 106 rfl ?_
  exact x_zret (z := false) dX9_canDo_106 ⟨rfl, h⟩
theorem cX9_canDo_ {Q : Bool → Prop} {l0 : Nat} {l1 : Int32} {l2 : Int32} {l3 : Int32} {M : Mem} (hk_l0 : SHk l0 = 9) (h : FX9_canDo Q l0 l1 l2 l3 M) : xM yX9_canDo cX9_canDo 4 (some .boolean) 2 [.ref l0, .int l1, .int l2, .int l3] M (xQb (xP M Q)) := xM_of (by decide +kernel) (Nat.le_of_ble_eq_true rfl) (eX9_canDo hk_l0 h)
theorem kX9_canDo {own : String} {cc : ByteArray} {nL : Nat} {rt : Option FieldType} {d pc ix : Nat} {L : List (Nat × Value)} {st : List Value} {M : Mem} {Rt : xGt → Array Value → State → Outcome → State → Prop} {Q : Bool → Prop} {l0 : Nat} {l1 : Int32} {l2 : Int32} {l3 : Int32} (hd : decode cc pc = .ok (.invokevirtual ix, 3)) (q : Nat) (hq : pc + 3 = q) (hk_l0 : SHk l0 = 9) (w1 : Cond.methodLink own ix yX9_canDo ∈ xTs) (hr : 2 < d) (hst : (st.map fun v => v.category).sum ≤ 8) (h : FX9_canDo Q l0 l1 l2 l3 M) (k : ∀ (r : Bool), Q r → xX own cc nL rt d q L (.int (bI r) :: st) M Rt) : xX own cc nL rt d pc L (.int l3 :: .int l2 :: .int l1 :: .ref l0 :: st) M Rt :=
  x_callV_b (n := 3) (As := [.int l1, .int l2, .int l3]) hd q hq hk_l0 (by decide) rfl rfl w1 kw3_2 kw3_3 kw1_3 kw3_4 (by decide +kernel) rfl hr (by decide) hst _ rfl (cX9_canDo_ hk_l0 h) (fun r N hN => by obtain ⟨rfl, hN⟩ := hN; exact k r hN)
def FX9_cell (Q : Int32 → Prop) (l0 : Nat) (l1 : Int32) (l2 : Int32) (M : Mem) : Prop :=
  ((((l1 * 4) + l2) < 0 → Q (-100)) ∧ (¬ ((l1 * 4) + l2) < 0 → (((Int32.ofNat (SHn (l0 + 9))) ≤ ((l1 * 4) + l2) → Q (-100)) ∧ (¬ (Int32.ofNat (SHn (l0 + 9))) ≤ ((l1 * 4) + l2) → vp_in ((l1 * 4) + l2) (SHn (l0 + 9)) ∧ Q (M (l0 + 9) (ix ((l1 * 4) + l2)))))))
theorem eX9_cell {Q : Int32 → Prop} {l0 : Nat} {l1 : Int32} {l2 : Int32} {M : Mem} (hk_l0 : SHk l0 = 9) (h : FX9_cell Q l0 l1 l2 M) : xX RX9 cX9_cell 4 (some .int) 1 0 [(0, .ref l0), (1, .int l1), (2, .int l2)] [] M (xQi (xP M Q)) := by
  unfold FX9_cell at h
  refine x_iload_n dX9_cell_0 rfl 1 rfl ?_
  refine x_iconst dX9_cell_1 kc_4 2 rfl ?_
  refine x_imul dX9_cell_2 3 rfl ?_
  refine x_iload_n dX9_cell_3 rfl 4 rfl ?_
  refine x_iadd dX9_cell_4 5 rfl ?_
  refine x_istore_n dX9_cell_5 (Nat.le_of_ble_eq_true rfl) [(0, .ref l0), (1, .int l1), (2, .int l2), (3, .int ((l1 * 4) + l2))] rfl 6 rfl ?_
  refine x_iload_n dX9_cell_6 rfl 7 rfl ?_
  refine x_if_lt dX9_cell_7 28 10 rfl rfl (fun hc => ?_) (fun hc => ?_)
  · have h := h.1 hc
    refine x_bipush dX9_cell_28 kb_m100 30 rfl ?_
    exact x_iret dX9_cell_30 ⟨rfl, h⟩
  · have h := h.2 hc
    refine x_iload_n dX9_cell_10 rfl 11 rfl ?_
    refine x_aload_n dX9_cell_11 rfl 12 rfl ?_
    refine gf9_0 dX9_cell_12 15 rfl hk_l0 kw1_45 ?_
    refine x_alen (n := Int32.ofNat (SHn (l0 + 9))) dX9_cell_15 ⟨ly9_0 hk_l0, rfl⟩ rfl 16 rfl ?_
    refine x_icmp_ge dX9_cell_16 28 19 rfl rfl (fun hc => ?_) (fun hc => ?_)
    · have h := h.1 hc
      refine x_bipush dX9_cell_28 kb_m100 30 rfl ?_
      exact x_iret dX9_cell_30 ⟨rfl, h⟩
    · have h := h.2 hc
      refine x_aload_n dX9_cell_19 rfl 20 rfl ?_
      refine gf9_0 dX9_cell_20 23 rfl hk_l0 kw1_45 ?_
      refine x_iload_n dX9_cell_23 rfl 24 rfl ?_
      obtain ⟨hin, h⟩ := h
      refine x_iaload dX9_cell_24 ⟨ly9_0 hk_l0, rfl⟩ hin 25 rfl ?_
      refine x_goto dX9_cell_25 30 rfl ?_
      exact x_iret dX9_cell_30 ⟨rfl, h⟩
theorem cX9_cell_ {Q : Int32 → Prop} {l0 : Nat} {l1 : Int32} {l2 : Int32} {M : Mem} (hk_l0 : SHk l0 = 9) (h : FX9_cell Q l0 l1 l2 M) : xM yX9_cell cX9_cell 4 (some .int) 1 [.ref l0, .int l1, .int l2] M (xQi (xP M Q)) := xM_of (by decide +kernel) (Nat.le_of_ble_eq_true rfl) (eX9_cell hk_l0 h)
theorem kX9_cell {own : String} {cc : ByteArray} {nL : Nat} {rt : Option FieldType} {d pc ix : Nat} {L : List (Nat × Value)} {st : List Value} {M : Mem} {Rt : xGt → Array Value → State → Outcome → State → Prop} {Q : Int32 → Prop} {l0 : Nat} {l1 : Int32} {l2 : Int32} (hd : decode cc pc = .ok (.invokevirtual ix, 3)) (q : Nat) (hq : pc + 3 = q) (hk_l0 : SHk l0 = 9) (w1 : Cond.methodLink own ix yX9_cell ∈ xTs) (hr : 1 < d) (hst : (st.map fun v => v.category).sum ≤ 8) (h : FX9_cell Q l0 l1 l2 M) (k : ∀ (r : Int32), Q r → xX own cc nL rt d q L (.int r :: st) M Rt) : xX own cc nL rt d pc L (.int l2 :: .int l1 :: .ref l0 :: st) M Rt :=
  x_callV_i (n := 2) (As := [.int l1, .int l2]) hd q hq hk_l0 (by decide) rfl rfl w1 kw4_181 kw4_182 kw1_3 kw4_183 (by decide +kernel) rfl hr (by decide) hst _ rfl (cX9_cell_ hk_l0 h) (fun r N hN => by obtain ⟨rfl, hN⟩ := hN; exact k r hN)
def FX9_ofSaint (Q : Int32 → Prop) (l0 : Nat) (l1 : Int32) (l2 : Int32) (M : Mem) : Prop :=
  FX9_isSaint (fun (r1 : Bool) => ((r1 = true → ((l2 = 0 → vp_in l1 14 ∧ Q (M (l0 + 4) (ix l1))) ∧ (l2 = 1 → vp_in l1 14 ∧ Q (M (l0 + 5) (ix l1))) ∧ (l2 = 2 → vp_in l1 14 ∧ Q (M (l0 + 6) (ix l1))) ∧ (l2 = 3 → vp_in l1 14 ∧ Q (M (l0 + 7) (ix l1))) ∧ (l2 = 4 → FX9_isDead (fun (r2 : Bool) => ((r2 = false → Q 0) ∧ (r2 = true → Q 1))) l0 l1 M) ∧ (l2 = 5 → FX9_pillarOf (fun (r3 : Int32) => Q r3) l0 l1 M) ∧ (l2 = 6 → FX9_aheadOnGround (fun (r4 : Int32) => Q r4) l0 l1 M) ∧ (¬ l2 = 0 → ¬ l2 = 1 → ¬ l2 = 2 → ¬ l2 = 3 → ¬ l2 = 4 → ¬ l2 = 5 → ¬ l2 = 6 → Q (-100)))) ∧ (r1 = false → Q (-100)))) l0 l1 M
theorem eX9_ofSaint {Q : Int32 → Prop} {l0 : Nat} {l1 : Int32} {l2 : Int32} {M : Mem} (hk_l0 : SHk l0 = 9) (h : FX9_ofSaint Q l0 l1 l2 M) : xX RX9 cX9_ofSaint 3 (some .int) 2 0 [(0, .ref l0), (1, .int l1), (2, .int l2)] [] M (xQi (xP M Q)) := by
  unfold FX9_ofSaint at h
  refine x_aload_n dX9_ofSaint_0 rfl 1 rfl ?_
  refine x_iload_n dX9_ofSaint_1 rfl 2 rfl ?_
  refine kX9_isSaint dX9_ofSaint_2 5 rfl hk_l0 kw2_233 (Nat.le_of_ble_eq_true rfl) (Nat.le_of_ble_eq_true rfl) h (fun r1 h => ?_)
  refine x_if_ne_b dX9_ofSaint_5 11 8 rfl rfl (fun hc => ?_) (fun hc => ?_)
  · have h := h.1 hc
    refine x_iload_n dX9_ofSaint_11 rfl 12 rfl ?_
    by_cases hc0 : l2 = 0
    · refine x_tab_at dX9_ofSaint_12 hc0 (by decide) (by decide) rfl (tg := 56) rfl ?_
      have h := h.1 hc0
      refine x_aload_n dX9_ofSaint_56 rfl 57 rfl ?_
      refine gf9_4 dX9_ofSaint_57 60 rfl hk_l0 kw1_55 ?_
      refine x_iload_n dX9_ofSaint_60 rfl 61 rfl ?_
      obtain ⟨hin, h⟩ := h
      refine x_iaload dX9_ofSaint_61 (ly9_4 hk_l0) hin 62 rfl ?_
      exact x_iret dX9_ofSaint_62 ⟨rfl, h⟩
    by_cases hc1 : l2 = 1
    · refine x_tab_at dX9_ofSaint_12 hc1 (by decide) (by decide) rfl (tg := 63) rfl ?_
      have h := h.2.1 hc1
      refine x_aload_n dX9_ofSaint_63 rfl 64 rfl ?_
      refine gf9_5 dX9_ofSaint_64 67 rfl hk_l0 kw1_58 ?_
      refine x_iload_n dX9_ofSaint_67 rfl 68 rfl ?_
      obtain ⟨hin, h⟩ := h
      refine x_iaload dX9_ofSaint_68 (ly9_5 hk_l0) hin 69 rfl ?_
      exact x_iret dX9_ofSaint_69 ⟨rfl, h⟩
    by_cases hc2 : l2 = 2
    · refine x_tab_at dX9_ofSaint_12 hc2 (by decide) (by decide) rfl (tg := 70) rfl ?_
      have h := h.2.2.1 hc2
      refine x_aload_n dX9_ofSaint_70 rfl 71 rfl ?_
      refine gf9_6 dX9_ofSaint_71 74 rfl hk_l0 kw1_60 ?_
      refine x_iload_n dX9_ofSaint_74 rfl 75 rfl ?_
      obtain ⟨hin, h⟩ := h
      refine x_iaload dX9_ofSaint_75 (ly9_6 hk_l0) hin 76 rfl ?_
      exact x_iret dX9_ofSaint_76 ⟨rfl, h⟩
    by_cases hc3 : l2 = 3
    · refine x_tab_at dX9_ofSaint_12 hc3 (by decide) (by decide) rfl (tg := 77) rfl ?_
      have h := h.2.2.2.1 hc3
      refine x_aload_n dX9_ofSaint_77 rfl 78 rfl ?_
      refine gf9_7 dX9_ofSaint_78 81 rfl hk_l0 kw1_63 ?_
      refine x_iload_n dX9_ofSaint_81 rfl 82 rfl ?_
      obtain ⟨hin, h⟩ := h
      refine x_iaload dX9_ofSaint_82 (ly9_7 hk_l0) hin 83 rfl ?_
      exact x_iret dX9_ofSaint_83 ⟨rfl, h⟩
    by_cases hc4 : l2 = 4
    · refine x_tab_at dX9_ofSaint_12 hc4 (by decide) (by decide) rfl (tg := 84) rfl ?_
      have h := h.2.2.2.2.1 hc4
      refine x_aload_n dX9_ofSaint_84 rfl 85 rfl ?_
      refine x_iload_n dX9_ofSaint_85 rfl 86 rfl ?_
      refine kX9_isDead dX9_ofSaint_86 89 rfl hk_l0 kw3_71 (Nat.le_of_ble_eq_true rfl) (Nat.le_of_ble_eq_true rfl) h (fun r2 h => ?_)
      refine x_if_eq_b dX9_ofSaint_89 96 92 rfl rfl (fun hc => ?_) (fun hc => ?_)
      · have h := h.1 hc
        refine x_iconst dX9_ofSaint_96 kc_0 97 rfl ?_
        exact x_iret dX9_ofSaint_97 ⟨rfl, h⟩
      · have h := h.2 hc
        refine x_iconst dX9_ofSaint_92 kc_1 93 rfl ?_
        refine x_goto dX9_ofSaint_93 97 rfl ?_
        exact x_iret dX9_ofSaint_97 ⟨rfl, h⟩
    by_cases hc5 : l2 = 5
    · refine x_tab_at dX9_ofSaint_12 hc5 (by decide) (by decide) rfl (tg := 98) rfl ?_
      have h := h.2.2.2.2.2.1 hc5
      refine x_aload_n dX9_ofSaint_98 rfl 99 rfl ?_
      refine x_iload_n dX9_ofSaint_99 rfl 100 rfl ?_
      refine kX9_pillarOf dX9_ofSaint_100 103 rfl hk_l0 kw3_9 (Nat.le_of_ble_eq_true rfl) (Nat.le_of_ble_eq_true rfl) h (fun r3 h => ?_)
      exact x_iret dX9_ofSaint_103 ⟨rfl, h⟩
    by_cases hc6 : l2 = 6
    · refine x_tab_at dX9_ofSaint_12 hc6 (by decide) (by decide) rfl (tg := 104) rfl ?_
      have h := h.2.2.2.2.2.2.1 hc6
      refine x_aload_n dX9_ofSaint_104 rfl 105 rfl ?_
      refine x_iload_n dX9_ofSaint_105 rfl 106 rfl ?_
      refine kX9_aheadOnGround dX9_ofSaint_106 109 rfl hk_l0 kw3_164 (Nat.le_of_ble_eq_true rfl) (Nat.le_of_ble_eq_true rfl) h (fun r4 h => ?_)
      exact x_iret dX9_ofSaint_109 ⟨rfl, h⟩
    have h := h.2.2.2.2.2.2.2 hc0 hc1 hc2 hc3 hc4 hc5 hc6
    refine x_tab_out dX9_ofSaint_12 (by have a0 := lv_neT hc0 (a := 0) (by decide); have a1 := lv_neT hc1 (a := 1) (by decide); have a2 := lv_neT hc2 (a := 2) (by decide); have a3 := lv_neT hc3 (a := 3) (by decide); have a4 := lv_neT hc4 (a := 4) (by decide); have a5 := lv_neT hc5 (a := 5) (by decide); have a6 := lv_neT hc6 (a := 6) (by decide); show (l2 : Int32).toInt < 0 ∨ 6 < (l2 : Int32).toInt; omega) (tg := 110) rfl ?_
    refine x_bipush dX9_ofSaint_110 kb_m100 112 rfl ?_
    exact x_iret dX9_ofSaint_112 ⟨rfl, h⟩
  · have h := h.2 hc
    refine x_bipush dX9_ofSaint_8 kb_m100 10 rfl ?_
    exact x_iret dX9_ofSaint_10 ⟨rfl, h⟩
theorem cX9_ofSaint_ {Q : Int32 → Prop} {l0 : Nat} {l1 : Int32} {l2 : Int32} {M : Mem} (hk_l0 : SHk l0 = 9) (h : FX9_ofSaint Q l0 l1 l2 M) : xM yX9_ofSaint cX9_ofSaint 3 (some .int) 2 [.ref l0, .int l1, .int l2] M (xQi (xP M Q)) := xM_of (by decide +kernel) (Nat.le_of_ble_eq_true rfl) (eX9_ofSaint hk_l0 h)
theorem kX9_ofSaint {own : String} {cc : ByteArray} {nL : Nat} {rt : Option FieldType} {d pc ix : Nat} {L : List (Nat × Value)} {st : List Value} {M : Mem} {Rt : xGt → Array Value → State → Outcome → State → Prop} {Q : Int32 → Prop} {l0 : Nat} {l1 : Int32} {l2 : Int32} (hd : decode cc pc = .ok (.invokevirtual ix, 3)) (q : Nat) (hq : pc + 3 = q) (hk_l0 : SHk l0 = 9) (w1 : Cond.methodLink own ix yX9_ofSaint ∈ xTs) (hr : 2 < d) (hst : (st.map fun v => v.category).sum ≤ 8) (h : FX9_ofSaint Q l0 l1 l2 M) (k : ∀ (r : Int32), Q r → xX own cc nL rt d q L (.int r :: st) M Rt) : xX own cc nL rt d pc L (.int l2 :: .int l1 :: .ref l0 :: st) M Rt :=
  x_callV_i (n := 2) (As := [.int l1, .int l2]) hd q hq hk_l0 (by decide) rfl rfl w1 kw4_163 kw4_164 kw1_3 kw4_165 (by decide +kernel) rfl hr (by decide) hst _ rfl (cX9_ofSaint_ hk_l0 h) (fun r N hN => by obtain ⟨rfl, hN⟩ := hN; exact k r hN)
def FX9_shown (Q : Int32 → Prop) (l0 : Nat) (l1 : Int32) (M : Mem) : Prop :=
  ((l1 = 0 → Q (M l0 10)) ∧ (l1 = 1 → Q (M l0 11)) ∧ (l1 = 2 → Q (M l0 15)) ∧ (l1 = 3 → Q (M l0 13)) ∧ (l1 = 4 → Q (M l0 16)) ∧ (l1 = 5 → Q (M l0 14)) ∧ (l1 = 6 → Q (M l0 12)) ∧ (l1 = 7 → Q (M l0 9)) ∧ (l1 = 8 → Q (M l0 18)) ∧ (l1 = 9 → Q (M l0 17)) ∧ (¬ l1 = 0 → ¬ l1 = 1 → ¬ l1 = 2 → ¬ l1 = 3 → ¬ l1 = 4 → ¬ l1 = 5 → ¬ l1 = 6 → ¬ l1 = 7 → ¬ l1 = 8 → ¬ l1 = 9 → Q (-1)))
theorem eX9_shown {Q : Int32 → Prop} {l0 : Nat} {l1 : Int32} {M : Mem} (hk_l0 : SHk l0 = 9) (h : FX9_shown Q l0 l1 M) : xX RX9 cX9_shown 2 (some .int) 1 0 [(0, .ref l0), (1, .int l1)] [] M (xQi (xP M Q)) := by
  unfold FX9_shown at h
  refine x_iload_n dX9_shown_0 rfl 1 rfl ?_
  by_cases hc0 : l1 = 0
  · refine x_tab_at dX9_shown_1 hc0 (by decide) (by decide) rfl (tg := 56) rfl ?_
    have h := h.1 hc0
    refine x_aload_n dX9_shown_56 rfl 57 rfl ?_
    refine gf9_10 dX9_shown_57 60 rfl hk_l0 kw1_68 ?_
    exact x_iret dX9_shown_60 ⟨rfl, h⟩
  by_cases hc1 : l1 = 1
  · refine x_tab_at dX9_shown_1 hc1 (by decide) (by decide) rfl (tg := 61) rfl ?_
    have h := h.2.1 hc1
    refine x_aload_n dX9_shown_61 rfl 62 rfl ?_
    refine gf9_11 dX9_shown_62 65 rfl hk_l0 kw1_72 ?_
    exact x_iret dX9_shown_65 ⟨rfl, h⟩
  by_cases hc2 : l1 = 2
  · refine x_tab_at dX9_shown_1 hc2 (by decide) (by decide) rfl (tg := 66) rfl ?_
    have h := h.2.2.1 hc2
    refine x_aload_n dX9_shown_66 rfl 67 rfl ?_
    refine gf9_15 dX9_shown_67 70 rfl hk_l0 kw1_85 ?_
    exact x_iret dX9_shown_70 ⟨rfl, h⟩
  by_cases hc3 : l1 = 3
  · refine x_tab_at dX9_shown_1 hc3 (by decide) (by decide) rfl (tg := 71) rfl ?_
    have h := h.2.2.2.1 hc3
    refine x_aload_n dX9_shown_71 rfl 72 rfl ?_
    refine gf9_13 dX9_shown_72 75 rfl hk_l0 kw1_78 ?_
    exact x_iret dX9_shown_75 ⟨rfl, h⟩
  by_cases hc4 : l1 = 4
  · refine x_tab_at dX9_shown_1 hc4 (by decide) (by decide) rfl (tg := 76) rfl ?_
    have h := h.2.2.2.2.1 hc4
    refine x_aload_n dX9_shown_76 rfl 77 rfl ?_
    refine gf9_16 dX9_shown_77 80 rfl hk_l0 kw1_90 ?_
    exact x_iret dX9_shown_80 ⟨rfl, h⟩
  by_cases hc5 : l1 = 5
  · refine x_tab_at dX9_shown_1 hc5 (by decide) (by decide) rfl (tg := 81) rfl ?_
    have h := h.2.2.2.2.2.1 hc5
    refine x_aload_n dX9_shown_81 rfl 82 rfl ?_
    refine gf9_14 dX9_shown_82 85 rfl hk_l0 kw1_82 ?_
    exact x_iret dX9_shown_85 ⟨rfl, h⟩
  by_cases hc6 : l1 = 6
  · refine x_tab_at dX9_shown_1 hc6 (by decide) (by decide) rfl (tg := 86) rfl ?_
    have h := h.2.2.2.2.2.2.1 hc6
    refine x_aload_n dX9_shown_86 rfl 87 rfl ?_
    refine gf9_12 dX9_shown_87 90 rfl hk_l0 kw1_76 ?_
    exact x_iret dX9_shown_90 ⟨rfl, h⟩
  by_cases hc7 : l1 = 7
  · refine x_tab_at dX9_shown_1 hc7 (by decide) (by decide) rfl (tg := 91) rfl ?_
    have h := h.2.2.2.2.2.2.2.1 hc7
    refine x_aload_n dX9_shown_91 rfl 92 rfl ?_
    refine gf9_9 dX9_shown_92 95 rfl hk_l0 kw1_66 ?_
    exact x_iret dX9_shown_95 ⟨rfl, h⟩
  by_cases hc8 : l1 = 8
  · refine x_tab_at dX9_shown_1 hc8 (by decide) (by decide) rfl (tg := 96) rfl ?_
    have h := h.2.2.2.2.2.2.2.2.1 hc8
    refine x_aload_n dX9_shown_96 rfl 97 rfl ?_
    refine gf9_18 dX9_shown_97 100 rfl hk_l0 kw1_95 ?_
    exact x_iret dX9_shown_100 ⟨rfl, h⟩
  by_cases hc9 : l1 = 9
  · refine x_tab_at dX9_shown_1 hc9 (by decide) (by decide) rfl (tg := 101) rfl ?_
    have h := h.2.2.2.2.2.2.2.2.2.1 hc9
    refine x_aload_n dX9_shown_101 rfl 102 rfl ?_
    refine gf9_17 dX9_shown_102 105 rfl hk_l0 kw1_94 ?_
    exact x_iret dX9_shown_105 ⟨rfl, h⟩
  have h := h.2.2.2.2.2.2.2.2.2.2 hc0 hc1 hc2 hc3 hc4 hc5 hc6 hc7 hc8 hc9
  refine x_tab_out dX9_shown_1 (by have a0 := lv_neT hc0 (a := 0) (by decide); have a1 := lv_neT hc1 (a := 1) (by decide); have a2 := lv_neT hc2 (a := 2) (by decide); have a3 := lv_neT hc3 (a := 3) (by decide); have a4 := lv_neT hc4 (a := 4) (by decide); have a5 := lv_neT hc5 (a := 5) (by decide); have a6 := lv_neT hc6 (a := 6) (by decide); have a7 := lv_neT hc7 (a := 7) (by decide); have a8 := lv_neT hc8 (a := 8) (by decide); have a9 := lv_neT hc9 (a := 9) (by decide); show (l1 : Int32).toInt < 0 ∨ 9 < (l1 : Int32).toInt; omega) (tg := 106) rfl ?_
  refine x_iconst dX9_shown_106 kc_m1 107 rfl ?_
  exact x_iret dX9_shown_107 ⟨rfl, h⟩
theorem cX9_shown_ {Q : Int32 → Prop} {l0 : Nat} {l1 : Int32} {M : Mem} (hk_l0 : SHk l0 = 9) (h : FX9_shown Q l0 l1 M) : xM yX9_shown cX9_shown 2 (some .int) 1 [.ref l0, .int l1] M (xQi (xP M Q)) := xM_of (by decide +kernel) (Nat.le_of_ble_eq_true rfl) (eX9_shown hk_l0 h)
theorem kX9_shown {own : String} {cc : ByteArray} {nL : Nat} {rt : Option FieldType} {d pc ix : Nat} {L : List (Nat × Value)} {st : List Value} {M : Mem} {Rt : xGt → Array Value → State → Outcome → State → Prop} {Q : Int32 → Prop} {l0 : Nat} {l1 : Int32} (hd : decode cc pc = .ok (.invokevirtual ix, 3)) (q : Nat) (hq : pc + 3 = q) (hk_l0 : SHk l0 = 9) (w1 : Cond.methodLink own ix yX9_shown ∈ xTs) (hr : 1 < d) (hst : (st.map fun v => v.category).sum ≤ 8) (h : FX9_shown Q l0 l1 M) (k : ∀ (r : Int32), Q r → xX own cc nL rt d q L (.int r :: st) M Rt) : xX own cc nL rt d pc L (.int l1 :: .ref l0 :: st) M Rt :=
  x_callV_i (n := 1) (As := [.int l1]) hd q hq hk_l0 (by decide) rfl rfl w1 kw5_150 kw5_151 kw1_3 kw5_152 (by decide +kernel) rfl hr (by decide) hst _ rfl (cX9_shown_ hk_l0 h) (fun r N hN => by obtain ⟨rfl, hN⟩ := hN; exact k r hN)
def lbX9_hungerOfLiving_4 (Q : Int32 → Prop) (l0 : Nat) (M : Mem) (B4 : Int32 → Int32 → Prop) (l1 : Int32) (l2 : Int32) : Prop :=
  (((M l0 11) ≤ l2 → Q l1) ∧ (¬ (M l0 11) ≤ l2 → FX9_isDead (fun (r1 : Bool) => ((r1 = true → B4 l1 (l2 + 1)) ∧ (r1 = false → vp_in l2 14 ∧ ∀ y2 : Int32, y2 = l1 + (M (l0 + 7) (ix l2)) → B4 y2 (l2 + 1)))) l0 l2 M))
def NX9_hungerOfLiving_4 (Q : Int32 → Prop) (l0 : Nat) (l1 : Int32) (l2 : Int32) (M : Mem) : Prop := xlp (fun (B : Int32 × Int32 → Prop) a => lbX9_hungerOfLiving_4 Q l0 M (fun l1 l2 => B (l1, l2)) a.1 a.2) (l1, l2)
theorem nX9_hungerOfLiving_4 {Q : Int32 → Prop} {l0 : Nat} {l1 : Int32} {l2 : Int32} {M : Mem} (hk_l0 : SHk l0 = 9) (h : NX9_hungerOfLiving_4 Q l0 l1 l2 M) : xX RX9 cX9_hungerOfLiving 3 (some .int) 2 4 [(0, .ref l0), (1, .int l1), (2, .int l2)] [] M (xQi (xP M Q)) := by
  obtain ⟨n, h⟩ := h
  have hB4 : ∀ (n : Nat) (l1 : Int32) (l2 : Int32), xlpn (fun (B : Int32 × Int32 → Prop) a => lbX9_hungerOfLiving_4 Q l0 M (fun l1 l2 => B (l1, l2)) a.1 a.2) n (l1, l2) → xX RX9 cX9_hungerOfLiving 3 (some .int) 2 4 [(0, .ref l0), (1, .int l1), (2, .int l2)] [] M (xQi (xP M Q)) := by
    intro n
    induction n with
    | zero => intro l1 l2 h; exact False.elim h
    | succ n ih =>
      intro l1 l2 h
      have hB4 := ih
      have h : lbX9_hungerOfLiving_4 Q l0 M (fun l1 l2 => xlpn (fun (B : Int32 × Int32 → Prop) a => lbX9_hungerOfLiving_4 Q l0 M (fun l1 l2 => B (l1, l2)) a.1 a.2) n (l1, l2)) l1 l2 := h
      unfold lbX9_hungerOfLiving_4 at h
      refine x_iload_n dX9_hungerOfLiving_4 rfl 5 rfl ?_
      refine x_aload_n dX9_hungerOfLiving_5 rfl 6 rfl ?_
      refine gf9_11 dX9_hungerOfLiving_6 9 rfl hk_l0 kw1_72 ?_
      refine x_icmp_ge dX9_hungerOfLiving_9 35 12 rfl rfl (fun hc => ?_) (fun hc => ?_)
      · have h := h.1 hc
        refine x_iload_n dX9_hungerOfLiving_35 rfl 36 rfl ?_
        exact x_iret dX9_hungerOfLiving_36 ⟨rfl, h⟩
      · have h := h.2 hc
        refine x_aload_n dX9_hungerOfLiving_12 rfl 13 rfl ?_
        refine x_iload_n dX9_hungerOfLiving_13 rfl 14 rfl ?_
        refine kX9_isDead dX9_hungerOfLiving_14 17 rfl hk_l0 kw3_71 (Nat.le_of_ble_eq_true rfl) (Nat.le_of_ble_eq_true rfl) h (fun r1 h => ?_)
        refine x_if_ne_b dX9_hungerOfLiving_17 29 20 rfl rfl (fun hc => ?_) (fun hc => ?_)
        · have h := h.1 hc
          refine x_iinc dX9_hungerOfLiving_29 rfl (congrArg (l2 + ·) kc_1) (Nat.le_of_ble_eq_true rfl) [(0, .ref l0), (1, .int l1), (2, .int (l2 + 1))] rfl 32 rfl ?_
          refine x_goto dX9_hungerOfLiving_32 4 rfl ?_
          exact hB4 _ _ h
        · have h := h.2 hc
          refine x_iload_n dX9_hungerOfLiving_20 rfl 21 rfl ?_
          refine x_aload_n dX9_hungerOfLiving_21 rfl 22 rfl ?_
          refine gf9_7 dX9_hungerOfLiving_22 25 rfl hk_l0 kw1_63 ?_
          refine x_iload_n dX9_hungerOfLiving_25 rfl 26 rfl ?_
          obtain ⟨hin, h⟩ := h
          refine x_iaload dX9_hungerOfLiving_26 (ly9_7 hk_l0) hin 27 rfl ?_
          refine x_iadd dX9_hungerOfLiving_27 28 rfl ?_
          refine x_top (fun y2 hy2 => ?_)
          have h := h y2 hy2
          refine x_istore_n dX9_hungerOfLiving_28 (Nat.le_of_ble_eq_true rfl) [(0, .ref l0), (1, .int y2), (2, .int l2)] rfl 29 rfl ?_
          refine x_iinc dX9_hungerOfLiving_29 rfl (congrArg (l2 + ·) kc_1) (Nat.le_of_ble_eq_true rfl) [(0, .ref l0), (1, .int y2), (2, .int (l2 + 1))] rfl 32 rfl ?_
          refine x_goto dX9_hungerOfLiving_32 4 rfl ?_
          exact hB4 _ _ h
  exact hB4 n l1 l2 h
def FX9_hungerOfLiving (Q : Int32 → Prop) (l0 : Nat) (M : Mem) : Prop :=
  NX9_hungerOfLiving_4 Q l0 0 0 M
theorem eX9_hungerOfLiving {Q : Int32 → Prop} {l0 : Nat} {M : Mem} (hk_l0 : SHk l0 = 9) (h : FX9_hungerOfLiving Q l0 M) : xX RX9 cX9_hungerOfLiving 3 (some .int) 2 0 [(0, .ref l0)] [] M (xQi (xP M Q)) := by
  unfold FX9_hungerOfLiving at h
  refine x_iconst dX9_hungerOfLiving_0 kc_0 1 rfl ?_
  refine x_istore_n dX9_hungerOfLiving_1 (Nat.le_of_ble_eq_true rfl) [(0, .ref l0), (1, .int 0)] rfl 2 rfl ?_
  refine x_iconst dX9_hungerOfLiving_2 kc_0 3 rfl ?_
  refine x_istore_n dX9_hungerOfLiving_3 (Nat.le_of_ble_eq_true rfl) [(0, .ref l0), (1, .int 0), (2, .int 0)] rfl 4 rfl ?_
  exact nX9_hungerOfLiving_4 hk_l0 h
theorem cX9_hungerOfLiving_ {Q : Int32 → Prop} {l0 : Nat} {M : Mem} (hk_l0 : SHk l0 = 9) (h : FX9_hungerOfLiving Q l0 M) : xM yX9_hungerOfLiving cX9_hungerOfLiving 3 (some .int) 2 [.ref l0] M (xQi (xP M Q)) := xM_of (by decide +kernel) (Nat.le_of_ble_eq_true rfl) (eX9_hungerOfLiving hk_l0 h)
theorem kX9_hungerOfLiving {own : String} {cc : ByteArray} {nL : Nat} {rt : Option FieldType} {d pc ix : Nat} {L : List (Nat × Value)} {st : List Value} {M : Mem} {Rt : xGt → Array Value → State → Outcome → State → Prop} {Q : Int32 → Prop} {l0 : Nat} (hd : decode cc pc = .ok (.invokevirtual ix, 3)) (q : Nat) (hq : pc + 3 = q) (hk_l0 : SHk l0 = 9) (w1 : Cond.methodLink own ix yX9_hungerOfLiving ∈ xTs) (hr : 2 < d) (hst : (st.map fun v => v.category).sum ≤ 8) (h : FX9_hungerOfLiving Q l0 M) (k : ∀ (r : Int32), Q r → xX own cc nL rt d q L (.int r :: st) M Rt) : xX own cc nL rt d pc L (.ref l0 :: st) M Rt :=
  x_callV_i (n := 0) (As := []) hd q hq hk_l0 (by decide) rfl rfl w1 kw4_196 kw4_197 kw1_3 kw4_198 (by decide +kernel) rfl hr (by decide) hst _ rfl (cX9_hungerOfLiving_ hk_l0 h) (fun r N hN => by obtain ⟨rfl, hN⟩ := hN; exact k r hN)
def FX9_lastAdvice (Q : Int32 → Prop) (l0 : Nat) (M : Mem) : Prop :=
  (((M l0 10) = 0 → Q 0) ∧ (¬ (M l0 10) = 0 → ((¬ (M (l0 + 3) 0) = (-100) → Q (M (l0 + 3) 0)) ∧ ((M (l0 + 3) 0) = (-100) → Q 0))))
theorem eX9_lastAdvice {Q : Int32 → Prop} {l0 : Nat} {M : Mem} (hk_l0 : SHk l0 = 9) (h : FX9_lastAdvice Q l0 M) : xX RX9 cX9_lastAdvice 1 (some .int) 1 0 [(0, .ref l0)] [] M (xQi (xP M Q)) := by
  unfold FX9_lastAdvice at h
  refine x_aload_n dX9_lastAdvice_0 rfl 1 rfl ?_
  refine gf9_10 dX9_lastAdvice_1 4 rfl hk_l0 kw1_68 ?_
  refine x_if_eq dX9_lastAdvice_4 18 7 rfl rfl (fun hc => ?_) (fun hc => ?_)
  · have h := h.1 hc
    refine x_iconst dX9_lastAdvice_18 kc_0 19 rfl ?_
    refine x_goto dX9_lastAdvice_19 28 rfl ?_
    exact x_iret dX9_lastAdvice_28 ⟨rfl, h⟩
  · have h := h.2 hc
    refine x_aload_n dX9_lastAdvice_7 rfl 8 rfl ?_
    refine gf9_3 dX9_lastAdvice_8 11 rfl hk_l0 kw1_52 ?_
    refine x_iconst dX9_lastAdvice_11 kc_0 12 rfl ?_
    refine x_iaload dX9_lastAdvice_12 (ly9_3 hk_l0) (by unfold vp_in; decide) 13 rfl ?_
    refine x_bipush dX9_lastAdvice_13 kb_m100 15 rfl ?_
    refine x_icmp_ne dX9_lastAdvice_15 22 18 rfl rfl (fun hc => ?_) (fun hc => ?_)
    · have h := h.1 hc
      refine x_aload_n dX9_lastAdvice_22 rfl 23 rfl ?_
      refine gf9_3 dX9_lastAdvice_23 26 rfl hk_l0 kw1_52 ?_
      refine x_iconst dX9_lastAdvice_26 kc_0 27 rfl ?_
      refine x_iaload dX9_lastAdvice_27 (ly9_3 hk_l0) (by unfold vp_in; decide) 28 rfl ?_
      exact x_iret dX9_lastAdvice_28 ⟨rfl, h⟩
    · have h := h.2 hc
      refine x_iconst dX9_lastAdvice_18 kc_0 19 rfl ?_
      refine x_goto dX9_lastAdvice_19 28 rfl ?_
      exact x_iret dX9_lastAdvice_28 ⟨rfl, h⟩
theorem cX9_lastAdvice_ {Q : Int32 → Prop} {l0 : Nat} {M : Mem} (hk_l0 : SHk l0 = 9) (h : FX9_lastAdvice Q l0 M) : xM yX9_lastAdvice cX9_lastAdvice 1 (some .int) 1 [.ref l0] M (xQi (xP M Q)) := xM_of (by decide +kernel) (Nat.le_of_ble_eq_true rfl) (eX9_lastAdvice hk_l0 h)
theorem kX9_lastAdvice {own : String} {cc : ByteArray} {nL : Nat} {rt : Option FieldType} {d pc ix : Nat} {L : List (Nat × Value)} {st : List Value} {M : Mem} {Rt : xGt → Array Value → State → Outcome → State → Prop} {Q : Int32 → Prop} {l0 : Nat} (hd : decode cc pc = .ok (.invokevirtual ix, 3)) (q : Nat) (hq : pc + 3 = q) (hk_l0 : SHk l0 = 9) (w1 : Cond.methodLink own ix yX9_lastAdvice ∈ xTs) (hr : 1 < d) (hst : (st.map fun v => v.category).sum ≤ 8) (h : FX9_lastAdvice Q l0 M) (k : ∀ (r : Int32), Q r → xX own cc nL rt d q L (.int r :: st) M Rt) : xX own cc nL rt d pc L (.ref l0 :: st) M Rt :=
  x_callV_i (n := 0) (As := []) hd q hq hk_l0 (by decide) rfl rfl w1 kw4_200 kw4_201 kw1_3 kw4_202 (by decide +kernel) rfl hr (by decide) hst _ rfl (cX9_lastAdvice_ hk_l0 h) (fun r N hN => by obtain ⟨rfl, hN⟩ := hN; exact k r hN)
def lbX9_sitting_4 (Q : Int32 → Prop) (l0 : Nat) (M : Mem) (B4 : Int32 → Int32 → Prop) (l1 : Int32) (l2 : Int32) : Prop :=
  (((M l0 10) ≤ l2 → Q l1) ∧ (¬ (M l0 10) ≤ l2 → vp_in l2 10 ∧ (((M (l0 + 2) (ix l2)) = (-1) → B4 l1 (l2 + 1)) ∧ (¬ (M (l0 + 2) (ix l2)) = (-1) → B4 (l1 + 1) (l2 + 1)))))
def NX9_sitting_4 (Q : Int32 → Prop) (l0 : Nat) (l1 : Int32) (l2 : Int32) (M : Mem) : Prop := xlp (fun (B : Int32 × Int32 → Prop) a => lbX9_sitting_4 Q l0 M (fun l1 l2 => B (l1, l2)) a.1 a.2) (l1, l2)
theorem nX9_sitting_4 {Q : Int32 → Prop} {l0 : Nat} {l1 : Int32} {l2 : Int32} {M : Mem} (hk_l0 : SHk l0 = 9) (h : NX9_sitting_4 Q l0 l1 l2 M) : xX RX9 cX9_sitting 3 (some .int) 1 4 [(0, .ref l0), (1, .int l1), (2, .int l2)] [] M (xQi (xP M Q)) := by
  obtain ⟨n, h⟩ := h
  have hB4 : ∀ (n : Nat) (l1 : Int32) (l2 : Int32), xlpn (fun (B : Int32 × Int32 → Prop) a => lbX9_sitting_4 Q l0 M (fun l1 l2 => B (l1, l2)) a.1 a.2) n (l1, l2) → xX RX9 cX9_sitting 3 (some .int) 1 4 [(0, .ref l0), (1, .int l1), (2, .int l2)] [] M (xQi (xP M Q)) := by
    intro n
    induction n with
    | zero => intro l1 l2 h; exact False.elim h
    | succ n ih =>
      intro l1 l2 h
      have hB4 := ih
      have h : lbX9_sitting_4 Q l0 M (fun l1 l2 => xlpn (fun (B : Int32 × Int32 → Prop) a => lbX9_sitting_4 Q l0 M (fun l1 l2 => B (l1, l2)) a.1 a.2) n (l1, l2)) l1 l2 := h
      unfold lbX9_sitting_4 at h
      refine x_iload_n dX9_sitting_4 rfl 5 rfl ?_
      refine x_aload_n dX9_sitting_5 rfl 6 rfl ?_
      refine gf9_10 dX9_sitting_6 9 rfl hk_l0 kw1_68 ?_
      refine x_icmp_ge dX9_sitting_9 31 12 rfl rfl (fun hc => ?_) (fun hc => ?_)
      · have h := h.1 hc
        refine x_iload_n dX9_sitting_31 rfl 32 rfl ?_
        exact x_iret dX9_sitting_32 ⟨rfl, h⟩
      · have h := h.2 hc
        refine x_aload_n dX9_sitting_12 rfl 13 rfl ?_
        refine gf9_2 dX9_sitting_13 16 rfl hk_l0 kw1_50 ?_
        refine x_iload_n dX9_sitting_16 rfl 17 rfl ?_
        obtain ⟨hin, h⟩ := h
        refine x_iaload dX9_sitting_17 (ly9_2 hk_l0) hin 18 rfl ?_
        refine x_iconst dX9_sitting_18 kc_m1 19 rfl ?_
        refine x_icmp_eq dX9_sitting_19 25 22 rfl rfl (fun hc => ?_) (fun hc => ?_)
        · have h := h.1 hc
          refine x_iinc dX9_sitting_25 rfl (congrArg (l2 + ·) kc_1) (Nat.le_of_ble_eq_true rfl) [(0, .ref l0), (1, .int l1), (2, .int (l2 + 1))] rfl 28 rfl ?_
          refine x_goto dX9_sitting_28 4 rfl ?_
          exact hB4 _ _ h
        · have h := h.2 hc
          refine x_iinc dX9_sitting_22 rfl (congrArg (l1 + ·) kc_1) (Nat.le_of_ble_eq_true rfl) [(0, .ref l0), (1, .int (l1 + 1)), (2, .int l2)] rfl 25 rfl ?_
          refine x_iinc dX9_sitting_25 rfl (congrArg (l2 + ·) kc_1) (Nat.le_of_ble_eq_true rfl) [(0, .ref l0), (1, .int (l1 + 1)), (2, .int (l2 + 1))] rfl 28 rfl ?_
          refine x_goto dX9_sitting_28 4 rfl ?_
          exact hB4 _ _ h
  exact hB4 n l1 l2 h
def FX9_sitting (Q : Int32 → Prop) (l0 : Nat) (M : Mem) : Prop :=
  NX9_sitting_4 Q l0 0 0 M
theorem eX9_sitting {Q : Int32 → Prop} {l0 : Nat} {M : Mem} (hk_l0 : SHk l0 = 9) (h : FX9_sitting Q l0 M) : xX RX9 cX9_sitting 3 (some .int) 1 0 [(0, .ref l0)] [] M (xQi (xP M Q)) := by
  unfold FX9_sitting at h
  refine x_iconst dX9_sitting_0 kc_0 1 rfl ?_
  refine x_istore_n dX9_sitting_1 (Nat.le_of_ble_eq_true rfl) [(0, .ref l0), (1, .int 0)] rfl 2 rfl ?_
  refine x_iconst dX9_sitting_2 kc_0 3 rfl ?_
  refine x_istore_n dX9_sitting_3 (Nat.le_of_ble_eq_true rfl) [(0, .ref l0), (1, .int 0), (2, .int 0)] rfl 4 rfl ?_
  exact nX9_sitting_4 hk_l0 h
theorem cX9_sitting_ {Q : Int32 → Prop} {l0 : Nat} {M : Mem} (hk_l0 : SHk l0 = 9) (h : FX9_sitting Q l0 M) : xM yX9_sitting cX9_sitting 3 (some .int) 1 [.ref l0] M (xQi (xP M Q)) := xM_of (by decide +kernel) (Nat.le_of_ble_eq_true rfl) (eX9_sitting hk_l0 h)
theorem kX9_sitting {own : String} {cc : ByteArray} {nL : Nat} {rt : Option FieldType} {d pc ix : Nat} {L : List (Nat × Value)} {st : List Value} {M : Mem} {Rt : xGt → Array Value → State → Outcome → State → Prop} {Q : Int32 → Prop} {l0 : Nat} (hd : decode cc pc = .ok (.invokevirtual ix, 3)) (q : Nat) (hq : pc + 3 = q) (hk_l0 : SHk l0 = 9) (w1 : Cond.methodLink own ix yX9_sitting ∈ xTs) (hr : 1 < d) (hst : (st.map fun v => v.category).sum ≤ 8) (h : FX9_sitting Q l0 M) (k : ∀ (r : Int32), Q r → xX own cc nL rt d q L (.int r :: st) M Rt) : xX own cc nL rt d pc L (.ref l0 :: st) M Rt :=
  x_callV_i (n := 0) (As := []) hd q hq hk_l0 (by decide) rfl rfl w1 kw4_225 kw4_226 kw1_3 kw4_227 (by decide +kernel) rfl hr (by decide) hst _ rfl (cX9_sitting_ hk_l0 h) (fun r N hN => by obtain ⟨rfl, hN⟩ := hN; exact k r hN)
def lbX9_spread_13 (Q : Int32 → Prop) (l0 : Nat) (l1 : Int32) (l2 : Int32) (M : Mem) (B13 : Int32 → Int32 → Int32 → Int32 → Prop) (l3 : Int32) (l4 : Int32) (l5 : Int32) (l6 : Int32) : Prop :=
  (((M l0 10) ≤ l6 → Q (l4 - l3)) ∧ (¬ (M l0 10) ≤ l6 → vp_in l6 10 ∧ FX9_isSaint (fun (r1 : Bool) => ((r1 = true → ((l5 < l1 → B13 l3 l4 (l5 + 1) (l6 + 1)) ∧ (¬ l5 < l1 → ((l2 ≤ l5 → B13 l3 l4 (l5 + 1) (l6 + 1)) ∧ (¬ l2 ≤ l5 → vp_in (M (l0 + 2) (ix l6)) 14 ∧ FJ9_min_7cf53 (fun (r2 : Int32) => vp_in (M (l0 + 2) (ix l6)) 14 ∧ FJ9_max_7cf53 (fun (r3 : Int32) => B13 r2 r3 (l5 + 1) (l6 + 1)) l4 (M (l0 + 6) (ix (M (l0 + 2) (ix l6)))) M) l3 (M (l0 + 6) (ix (M (l0 + 2) (ix l6)))) M))))) ∧ (r1 = false → B13 l3 l4 l5 (l6 + 1)))) l0 (M (l0 + 2) (ix l6)) M))
def NX9_spread_13 (Q : Int32 → Prop) (l0 : Nat) (l1 : Int32) (l2 : Int32) (l3 : Int32) (l4 : Int32) (l5 : Int32) (l6 : Int32) (M : Mem) : Prop := xlp (fun (B : Int32 × Int32 × Int32 × Int32 → Prop) a => lbX9_spread_13 Q l0 l1 l2 M (fun l3 l4 l5 l6 => B (l3, l4, l5, l6)) a.1 a.2.1 a.2.2.1 a.2.2.2) (l3, l4, l5, l6)
theorem nX9_spread_13 {Q : Int32 → Prop} {l0 : Nat} {l1 : Int32} {l2 : Int32} {l3 : Int32} {l4 : Int32} {l5 : Int32} {l6 : Int32} {M : Mem} (hk_l0 : SHk l0 = 9) (h : NX9_spread_13 Q l0 l1 l2 l3 l4 l5 l6 M) : xX RX9 cX9_spread 8 (some .int) 2 13 [(0, .ref l0), (1, .int l1), (2, .int l2), (3, .int l3), (4, .int l4), (5, .int l5), (6, .int l6)] [] M (xQi (xP M Q)) := by
  obtain ⟨n, h⟩ := h
  have hB13 : ∀ (n : Nat) (l3 : Int32) (l4 : Int32) (l5 : Int32) (l6 : Int32), xlpn (fun (B : Int32 × Int32 × Int32 × Int32 → Prop) a => lbX9_spread_13 Q l0 l1 l2 M (fun l3 l4 l5 l6 => B (l3, l4, l5, l6)) a.1 a.2.1 a.2.2.1 a.2.2.2) n (l3, l4, l5, l6) → xX RX9 cX9_spread 8 (some .int) 2 13 [(0, .ref l0), (1, .int l1), (2, .int l2), (3, .int l3), (4, .int l4), (5, .int l5), (6, .int l6)] [] M (xQi (xP M Q)) := by
    intro n
    induction n with
    | zero => intro l3 l4 l5 l6 h; exact False.elim h
    | succ n ih =>
      intro l3 l4 l5 l6 h
      have hB13 := ih
      have h : lbX9_spread_13 Q l0 l1 l2 M (fun l3 l4 l5 l6 => xlpn (fun (B : Int32 × Int32 × Int32 × Int32 → Prop) a => lbX9_spread_13 Q l0 l1 l2 M (fun l3 l4 l5 l6 => B (l3, l4, l5, l6)) a.1 a.2.1 a.2.2.1 a.2.2.2) n (l3, l4, l5, l6)) l3 l4 l5 l6 := h
      unfold lbX9_spread_13 at h
      refine x_iload dX9_spread_13 rfl 15 rfl ?_
      refine x_aload_n dX9_spread_15 rfl 16 rfl ?_
      refine gf9_10 dX9_spread_16 19 rfl hk_l0 kw1_68 ?_
      refine x_icmp_ge dX9_spread_19 90 22 rfl rfl (fun hc => ?_) (fun hc => ?_)
      · have h := h.1 hc
        refine x_iload dX9_spread_90 rfl 92 rfl ?_
        refine x_iload_n dX9_spread_92 rfl 93 rfl ?_
        refine x_isub dX9_spread_93 94 rfl ?_
        exact x_iret dX9_spread_94 ⟨rfl, h⟩
      · have h := h.2 hc
        refine x_aload_n dX9_spread_22 rfl 23 rfl ?_
        refine gf9_2 dX9_spread_23 26 rfl hk_l0 kw1_50 ?_
        refine x_iload dX9_spread_26 rfl 28 rfl ?_
        obtain ⟨hin, h⟩ := h
        refine x_iaload dX9_spread_28 (ly9_2 hk_l0) hin 29 rfl ?_
        refine x_istore dX9_spread_29 (Nat.le_of_ble_eq_true rfl) [(0, .ref l0), (1, .int l1), (2, .int l2), (3, .int l3), (4, .int l4), (5, .int l5), (6, .int l6), (7, .int (M (l0 + 2) (ix l6)))] rfl 31 rfl ?_
        refine x_aload_n dX9_spread_31 rfl 32 rfl ?_
        refine x_iload dX9_spread_32 rfl 34 rfl ?_
        refine kX9_isSaint dX9_spread_34 37 rfl hk_l0 kw2_233 (Nat.le_of_ble_eq_true rfl) (Nat.le_of_ble_eq_true rfl) h (fun r1 h => ?_)
        refine x_if_ne_b dX9_spread_37 43 40 rfl rfl (fun hc => ?_) (fun hc => ?_)
        · have h := h.1 hc
          refine x_iload dX9_spread_43 rfl 45 rfl ?_
          refine x_iload_n dX9_spread_45 rfl 46 rfl ?_
          refine x_icmp_lt dX9_spread_46 81 49 rfl rfl (fun hc => ?_) (fun hc => ?_)
          · have h := h.1 hc
            refine x_iinc dX9_spread_81 rfl (congrArg (l5 + ·) kc_1) (Nat.le_of_ble_eq_true rfl) [(0, .ref l0), (1, .int l1), (2, .int l2), (3, .int l3), (4, .int l4), (5, .int (l5 + 1)), (6, .int l6), (7, .int (M (l0 + 2) (ix l6)))] rfl 84 rfl ?_
            refine x_iinc dX9_spread_84 rfl (congrArg (l6 + ·) kc_1) (Nat.le_of_ble_eq_true rfl) [(0, .ref l0), (1, .int l1), (2, .int l2), (3, .int l3), (4, .int l4), (5, .int (l5 + 1)), (6, .int (l6 + 1)), (7, .int (M (l0 + 2) (ix l6)))] rfl 87 rfl ?_
            refine x_goto dX9_spread_87 13 rfl ?_
            refine x_weak [(0, .ref l0), (1, .int l1), (2, .int l2), (3, .int l3), (4, .int l4), (5, .int (l5 + 1)), (6, .int (l6 + 1))] [0, 1, 2, 3, 4, 5, 6] rfl ?_
            exact hB13 _ _ _ _ h
          · have h := h.2 hc
            refine x_iload dX9_spread_49 rfl 51 rfl ?_
            refine x_iload_n dX9_spread_51 rfl 52 rfl ?_
            refine x_icmp_ge dX9_spread_52 81 55 rfl rfl (fun hc => ?_) (fun hc => ?_)
            · have h := h.1 hc
              refine x_iinc dX9_spread_81 rfl (congrArg (l5 + ·) kc_1) (Nat.le_of_ble_eq_true rfl) [(0, .ref l0), (1, .int l1), (2, .int l2), (3, .int l3), (4, .int l4), (5, .int (l5 + 1)), (6, .int l6), (7, .int (M (l0 + 2) (ix l6)))] rfl 84 rfl ?_
              refine x_iinc dX9_spread_84 rfl (congrArg (l6 + ·) kc_1) (Nat.le_of_ble_eq_true rfl) [(0, .ref l0), (1, .int l1), (2, .int l2), (3, .int l3), (4, .int l4), (5, .int (l5 + 1)), (6, .int (l6 + 1)), (7, .int (M (l0 + 2) (ix l6)))] rfl 87 rfl ?_
              refine x_goto dX9_spread_87 13 rfl ?_
              refine x_weak [(0, .ref l0), (1, .int l1), (2, .int l2), (3, .int l3), (4, .int l4), (5, .int (l5 + 1)), (6, .int (l6 + 1))] [0, 1, 2, 3, 4, 5, 6] rfl ?_
              exact hB13 _ _ _ _ h
            · have h := h.2 hc
              refine x_iload_n dX9_spread_55 rfl 56 rfl ?_
              refine x_aload_n dX9_spread_56 rfl 57 rfl ?_
              refine gf9_6 dX9_spread_57 60 rfl hk_l0 kw1_60 ?_
              refine x_iload dX9_spread_60 rfl 62 rfl ?_
              obtain ⟨hin, h⟩ := h
              refine x_iaload dX9_spread_62 (ly9_6 hk_l0) hin 63 rfl ?_
              refine kJ9_min_7cf53 dX9_spread_63 66 rfl kw3_29 (Nat.le_of_ble_eq_true rfl) (Nat.le_of_ble_eq_true rfl) h (fun r2 h => ?_)
              refine x_istore_n dX9_spread_66 (Nat.le_of_ble_eq_true rfl) [(0, .ref l0), (1, .int l1), (2, .int l2), (3, .int r2), (4, .int l4), (5, .int l5), (6, .int l6), (7, .int (M (l0 + 2) (ix l6)))] rfl 67 rfl ?_
              refine x_iload dX9_spread_67 rfl 69 rfl ?_
              refine x_aload_n dX9_spread_69 rfl 70 rfl ?_
              refine gf9_6 dX9_spread_70 73 rfl hk_l0 kw1_60 ?_
              refine x_iload dX9_spread_73 rfl 75 rfl ?_
              obtain ⟨hin, h⟩ := h
              refine x_iaload dX9_spread_75 (ly9_6 hk_l0) hin 76 rfl ?_
              refine kJ9_max_7cf53 dX9_spread_76 79 rfl kw3_127 (Nat.le_of_ble_eq_true rfl) (Nat.le_of_ble_eq_true rfl) h (fun r3 h => ?_)
              refine x_istore dX9_spread_79 (Nat.le_of_ble_eq_true rfl) [(0, .ref l0), (1, .int l1), (2, .int l2), (3, .int r2), (4, .int r3), (5, .int l5), (6, .int l6), (7, .int (M (l0 + 2) (ix l6)))] rfl 81 rfl ?_
              refine x_iinc dX9_spread_81 rfl (congrArg (l5 + ·) kc_1) (Nat.le_of_ble_eq_true rfl) [(0, .ref l0), (1, .int l1), (2, .int l2), (3, .int r2), (4, .int r3), (5, .int (l5 + 1)), (6, .int l6), (7, .int (M (l0 + 2) (ix l6)))] rfl 84 rfl ?_
              refine x_iinc dX9_spread_84 rfl (congrArg (l6 + ·) kc_1) (Nat.le_of_ble_eq_true rfl) [(0, .ref l0), (1, .int l1), (2, .int l2), (3, .int r2), (4, .int r3), (5, .int (l5 + 1)), (6, .int (l6 + 1)), (7, .int (M (l0 + 2) (ix l6)))] rfl 87 rfl ?_
              refine x_goto dX9_spread_87 13 rfl ?_
              refine x_weak [(0, .ref l0), (1, .int l1), (2, .int l2), (3, .int r2), (4, .int r3), (5, .int (l5 + 1)), (6, .int (l6 + 1))] [0, 1, 2, 3, 4, 5, 6] rfl ?_
              exact hB13 _ _ _ _ h
        · have h := h.2 hc
          refine x_goto dX9_spread_40 84 rfl ?_
          refine x_iinc dX9_spread_84 rfl (congrArg (l6 + ·) kc_1) (Nat.le_of_ble_eq_true rfl) [(0, .ref l0), (1, .int l1), (2, .int l2), (3, .int l3), (4, .int l4), (5, .int l5), (6, .int (l6 + 1)), (7, .int (M (l0 + 2) (ix l6)))] rfl 87 rfl ?_
          refine x_goto dX9_spread_87 13 rfl ?_
          refine x_weak [(0, .ref l0), (1, .int l1), (2, .int l2), (3, .int l3), (4, .int l4), (5, .int l5), (6, .int (l6 + 1))] [0, 1, 2, 3, 4, 5, 6] rfl ?_
          exact hB13 _ _ _ _ h
  exact hB13 n l3 l4 l5 l6 h
def FX9_spread (Q : Int32 → Prop) (l0 : Nat) (l1 : Int32) (l2 : Int32) (M : Mem) : Prop :=
  NX9_spread_13 Q l0 l1 l2 99 (-99) 0 0 M
theorem eX9_spread {Q : Int32 → Prop} {l0 : Nat} {l1 : Int32} {l2 : Int32} {M : Mem} (hk_l0 : SHk l0 = 9) (h : FX9_spread Q l0 l1 l2 M) : xX RX9 cX9_spread 8 (some .int) 2 0 [(0, .ref l0), (1, .int l1), (2, .int l2)] [] M (xQi (xP M Q)) := by
  unfold FX9_spread at h
  refine x_bipush dX9_spread_0 kb_99 2 rfl ?_
  refine x_istore_n dX9_spread_2 (Nat.le_of_ble_eq_true rfl) [(0, .ref l0), (1, .int l1), (2, .int l2), (3, .int 99)] rfl 3 rfl ?_
  refine x_bipush dX9_spread_3 kb_m99 5 rfl ?_
  refine x_istore dX9_spread_5 (Nat.le_of_ble_eq_true rfl) [(0, .ref l0), (1, .int l1), (2, .int l2), (3, .int 99), (4, .int (-99))] rfl 7 rfl ?_
  refine x_iconst dX9_spread_7 kc_0 8 rfl ?_
  refine x_istore dX9_spread_8 (Nat.le_of_ble_eq_true rfl) [(0, .ref l0), (1, .int l1), (2, .int l2), (3, .int 99), (4, .int (-99)), (5, .int 0)] rfl 10 rfl ?_
  refine x_iconst dX9_spread_10 kc_0 11 rfl ?_
  refine x_istore dX9_spread_11 (Nat.le_of_ble_eq_true rfl) [(0, .ref l0), (1, .int l1), (2, .int l2), (3, .int 99), (4, .int (-99)), (5, .int 0), (6, .int 0)] rfl 13 rfl ?_
  exact nX9_spread_13 hk_l0 h
theorem cX9_spread_ {Q : Int32 → Prop} {l0 : Nat} {l1 : Int32} {l2 : Int32} {M : Mem} (hk_l0 : SHk l0 = 9) (h : FX9_spread Q l0 l1 l2 M) : xM yX9_spread cX9_spread 8 (some .int) 2 [.ref l0, .int l1, .int l2] M (xQi (xP M Q)) := xM_of (by decide +kernel) (Nat.le_of_ble_eq_true rfl) (eX9_spread hk_l0 h)
theorem kX9_spread {own : String} {cc : ByteArray} {nL : Nat} {rt : Option FieldType} {d pc ix : Nat} {L : List (Nat × Value)} {st : List Value} {M : Mem} {Rt : xGt → Array Value → State → Outcome → State → Prop} {Q : Int32 → Prop} {l0 : Nat} {l1 : Int32} {l2 : Int32} (hd : decode cc pc = .ok (.invokevirtual ix, 3)) (q : Nat) (hq : pc + 3 = q) (hk_l0 : SHk l0 = 9) (w1 : Cond.methodLink own ix yX9_spread ∈ xTs) (hr : 2 < d) (hst : (st.map fun v => v.category).sum ≤ 8) (h : FX9_spread Q l0 l1 l2 M) (k : ∀ (r : Int32), Q r → xX own cc nL rt d q L (.int r :: st) M Rt) : xX own cc nL rt d pc L (.int l2 :: .int l1 :: .ref l0 :: st) M Rt :=
  x_callV_i (n := 2) (As := [.int l1, .int l2]) hd q hq hk_l0 (by decide) rfl rfl w1 kw4_229 kw4_230 kw1_3 kw4_231 (by decide +kernel) rfl hr (by decide) hst _ rfl (cX9_spread_ hk_l0 h) (fun r N hN => by obtain ⟨rfl, hN⟩ := hN; exact k r hN)
def lbX9_wayTo_4 (Q : Int32 → Prop) (l0 : Nat) (l1 : Int32) (M : Mem) (B4 : Int32 → Int32 → Prop) (l2 : Int32) (l3 : Int32) : Prop :=
  (((M l0 10) ≤ l3 → Q l2) ∧ (¬ (M l0 10) ≤ l3 → vp_in l3 10 ∧ (((M (l0 + 2) (ix l3)) = (-1) → B4 l2 (l3 + 1)) ∧ (¬ (M (l0 + 2) (ix l3)) = (-1) → FX9_isPillar (fun (r1 : Bool) => ((r1 = false → B4 l2 (l3 + 1)) ∧ (r1 = true → vp_in l3 10 ∧ vp_in l1 10 ∧ FJ9_abs_0f7a4 (fun (r2 : Int32) => B4 (l2 + r2) (l3 + 1)) ((M (l0 + 1) (ix l3)) - (M (l0 + 1) (ix l1))) M))) l0 l1 M))))
def NX9_wayTo_4 (Q : Int32 → Prop) (l0 : Nat) (l1 : Int32) (l2 : Int32) (l3 : Int32) (M : Mem) : Prop := xlp (fun (B : Int32 × Int32 → Prop) a => lbX9_wayTo_4 Q l0 l1 M (fun l2 l3 => B (l2, l3)) a.1 a.2) (l2, l3)
theorem nX9_wayTo_4 {Q : Int32 → Prop} {l0 : Nat} {l1 : Int32} {l2 : Int32} {l3 : Int32} {M : Mem} (hk_l0 : SHk l0 = 9) (h : NX9_wayTo_4 Q l0 l1 l2 l3 M) : xX RX9 cX9_wayTo 4 (some .int) 2 4 [(0, .ref l0), (1, .int l1), (2, .int l2), (3, .int l3)] [] M (xQi (xP M Q)) := by
  obtain ⟨n, h⟩ := h
  have hB4 : ∀ (n : Nat) (l2 : Int32) (l3 : Int32), xlpn (fun (B : Int32 × Int32 → Prop) a => lbX9_wayTo_4 Q l0 l1 M (fun l2 l3 => B (l2, l3)) a.1 a.2) n (l2, l3) → xX RX9 cX9_wayTo 4 (some .int) 2 4 [(0, .ref l0), (1, .int l1), (2, .int l2), (3, .int l3)] [] M (xQi (xP M Q)) := by
    intro n
    induction n with
    | zero => intro l2 l3 h; exact False.elim h
    | succ n ih =>
      intro l2 l3 h
      have hB4 := ih
      have h : lbX9_wayTo_4 Q l0 l1 M (fun l2 l3 => xlpn (fun (B : Int32 × Int32 → Prop) a => lbX9_wayTo_4 Q l0 l1 M (fun l2 l3 => B (l2, l3)) a.1 a.2) n (l2, l3)) l2 l3 := h
      unfold lbX9_wayTo_4 at h
      refine x_iload_n dX9_wayTo_4 rfl 5 rfl ?_
      refine x_aload_n dX9_wayTo_5 rfl 6 rfl ?_
      refine gf9_10 dX9_wayTo_6 9 rfl hk_l0 kw1_68 ?_
      refine x_icmp_ge dX9_wayTo_9 55 12 rfl rfl (fun hc => ?_) (fun hc => ?_)
      · have h := h.1 hc
        refine x_iload_n dX9_wayTo_55 rfl 56 rfl ?_
        exact x_iret dX9_wayTo_56 ⟨rfl, h⟩
      · have h := h.2 hc
        refine x_aload_n dX9_wayTo_12 rfl 13 rfl ?_
        refine gf9_2 dX9_wayTo_13 16 rfl hk_l0 kw1_50 ?_
        refine x_iload_n dX9_wayTo_16 rfl 17 rfl ?_
        obtain ⟨hin, h⟩ := h
        refine x_iaload dX9_wayTo_17 (ly9_2 hk_l0) hin 18 rfl ?_
        refine x_iconst dX9_wayTo_18 kc_m1 19 rfl ?_
        refine x_icmp_eq dX9_wayTo_19 49 22 rfl rfl (fun hc => ?_) (fun hc => ?_)
        · have h := h.1 hc
          refine x_iinc dX9_wayTo_49 rfl (congrArg (l3 + ·) kc_1) (Nat.le_of_ble_eq_true rfl) [(0, .ref l0), (1, .int l1), (2, .int l2), (3, .int (l3 + 1))] rfl 52 rfl ?_
          refine x_goto dX9_wayTo_52 4 rfl ?_
          exact hB4 _ _ h
        · have h := h.2 hc
          refine x_aload_n dX9_wayTo_22 rfl 23 rfl ?_
          refine x_iload_n dX9_wayTo_23 rfl 24 rfl ?_
          refine kX9_isPillar dX9_wayTo_24 27 rfl hk_l0 kw3_13 (Nat.le_of_ble_eq_true rfl) (Nat.le_of_ble_eq_true rfl) h (fun r1 h => ?_)
          refine x_if_eq_b dX9_wayTo_27 49 30 rfl rfl (fun hc => ?_) (fun hc => ?_)
          · have h := h.1 hc
            refine x_iinc dX9_wayTo_49 rfl (congrArg (l3 + ·) kc_1) (Nat.le_of_ble_eq_true rfl) [(0, .ref l0), (1, .int l1), (2, .int l2), (3, .int (l3 + 1))] rfl 52 rfl ?_
            refine x_goto dX9_wayTo_52 4 rfl ?_
            exact hB4 _ _ h
          · have h := h.2 hc
            refine x_iload_n dX9_wayTo_30 rfl 31 rfl ?_
            refine x_aload_n dX9_wayTo_31 rfl 32 rfl ?_
            refine gf9_1 dX9_wayTo_32 35 rfl hk_l0 kw1_46 ?_
            refine x_iload_n dX9_wayTo_35 rfl 36 rfl ?_
            obtain ⟨hin, h⟩ := h
            refine x_iaload dX9_wayTo_36 (ly9_1 hk_l0) hin 37 rfl ?_
            refine x_aload_n dX9_wayTo_37 rfl 38 rfl ?_
            refine gf9_1 dX9_wayTo_38 41 rfl hk_l0 kw1_46 ?_
            refine x_iload_n dX9_wayTo_41 rfl 42 rfl ?_
            obtain ⟨hin, h⟩ := h
            refine x_iaload dX9_wayTo_42 (ly9_1 hk_l0) hin 43 rfl ?_
            refine x_isub dX9_wayTo_43 44 rfl ?_
            refine kJ9_abs_0f7a4 dX9_wayTo_44 47 rfl kw5_0 (Nat.le_of_ble_eq_true rfl) (Nat.le_of_ble_eq_true rfl) h (fun r2 h => ?_)
            refine x_iadd dX9_wayTo_47 48 rfl ?_
            refine x_istore_n dX9_wayTo_48 (Nat.le_of_ble_eq_true rfl) [(0, .ref l0), (1, .int l1), (2, .int (l2 + r2)), (3, .int l3)] rfl 49 rfl ?_
            refine x_iinc dX9_wayTo_49 rfl (congrArg (l3 + ·) kc_1) (Nat.le_of_ble_eq_true rfl) [(0, .ref l0), (1, .int l1), (2, .int (l2 + r2)), (3, .int (l3 + 1))] rfl 52 rfl ?_
            refine x_goto dX9_wayTo_52 4 rfl ?_
            exact hB4 _ _ h
  exact hB4 n l2 l3 h
def FX9_wayTo (Q : Int32 → Prop) (l0 : Nat) (l1 : Int32) (M : Mem) : Prop :=
  NX9_wayTo_4 Q l0 l1 0 0 M
theorem eX9_wayTo {Q : Int32 → Prop} {l0 : Nat} {l1 : Int32} {M : Mem} (hk_l0 : SHk l0 = 9) (h : FX9_wayTo Q l0 l1 M) : xX RX9 cX9_wayTo 4 (some .int) 2 0 [(0, .ref l0), (1, .int l1)] [] M (xQi (xP M Q)) := by
  unfold FX9_wayTo at h
  refine x_iconst dX9_wayTo_0 kc_0 1 rfl ?_
  refine x_istore_n dX9_wayTo_1 (Nat.le_of_ble_eq_true rfl) [(0, .ref l0), (1, .int l1), (2, .int 0)] rfl 2 rfl ?_
  refine x_iconst dX9_wayTo_2 kc_0 3 rfl ?_
  refine x_istore_n dX9_wayTo_3 (Nat.le_of_ble_eq_true rfl) [(0, .ref l0), (1, .int l1), (2, .int 0), (3, .int 0)] rfl 4 rfl ?_
  exact nX9_wayTo_4 hk_l0 h
theorem cX9_wayTo_ {Q : Int32 → Prop} {l0 : Nat} {l1 : Int32} {M : Mem} (hk_l0 : SHk l0 = 9) (h : FX9_wayTo Q l0 l1 M) : xM yX9_wayTo cX9_wayTo 4 (some .int) 2 [.ref l0, .int l1] M (xQi (xP M Q)) := xM_of (by decide +kernel) (Nat.le_of_ble_eq_true rfl) (eX9_wayTo hk_l0 h)
theorem kX9_wayTo {own : String} {cc : ByteArray} {nL : Nat} {rt : Option FieldType} {d pc ix : Nat} {L : List (Nat × Value)} {st : List Value} {M : Mem} {Rt : xGt → Array Value → State → Outcome → State → Prop} {Q : Int32 → Prop} {l0 : Nat} {l1 : Int32} (hd : decode cc pc = .ok (.invokevirtual ix, 3)) (q : Nat) (hq : pc + 3 = q) (hk_l0 : SHk l0 = 9) (w1 : Cond.methodLink own ix yX9_wayTo ∈ xTs) (hr : 2 < d) (hst : (st.map fun v => v.category).sum ≤ 8) (h : FX9_wayTo Q l0 l1 M) (k : ∀ (r : Int32), Q r → xX own cc nL rt d q L (.int r :: st) M Rt) : xX own cc nL rt d pc L (.int l1 :: .ref l0 :: st) M Rt :=
  x_callV_i (n := 1) (As := [.int l1]) hd q hq hk_l0 (by decide) rfl rfl w1 kw4_237 kw4_238 kw1_3 kw4_239 (by decide +kernel) rfl hr (by decide) hst _ rfl (cX9_wayTo_ hk_l0 h) (fun r N hN => by obtain ⟨rfl, hN⟩ := hN; exact k r hN)
def NX9_seenFrom_34 (Q : Int32 → Prop) (B7 : Int32 → Int32 → Int32 → Prop) (l0 : Nat) (l1 : Int32) (l2 : Int32) (l3 : Int32) (l4 : Int32) (s0 : Int32) (M : Mem) : Prop :=
  vp_in s0 10 ∧ (((M (l0 + 1) (ix s0)) ≤ l3 → B7 l2 l3 (l4 + 1)) ∧ (¬ (M (l0 + 1) (ix s0)) ≤ l3 → vp_in s0 10 ∧ B7 (l2 + 1) (M (l0 + 1) (ix s0)) (l4 + 1)))
theorem nX9_seenFrom_34 {Q : Int32 → Prop} {B7 : Int32 → Int32 → Int32 → Prop} {l0 : Nat} {l1 : Int32} {l2 : Int32} {l3 : Int32} {l4 : Int32} {s0 : Int32} {M : Mem} (hB7 : ∀ (l2 : Int32) (l3 : Int32) (l4 : Int32), B7 l2 l3 l4 → xX RX9 cX9_seenFrom 6 (some .int) 1 7 [(0, .ref l0), (1, .int l1), (2, .int l2), (3, .int l3), (4, .int l4)] [] M (xQi (xP M Q))) (hk_l0 : SHk l0 = 9) (h : NX9_seenFrom_34 Q B7 l0 l1 l2 l3 l4 s0 M) : xX RX9 cX9_seenFrom 6 (some .int) 1 34 [(0, .ref l0), (1, .int l1), (2, .int l2), (3, .int l3), (4, .int l4)] [.int s0] M (xQi (xP M Q)) := by
  unfold NX9_seenFrom_34 at h
  refine x_istore dX9_seenFrom_34 (Nat.le_of_ble_eq_true rfl) [(0, .ref l0), (1, .int l1), (2, .int l2), (3, .int l3), (4, .int l4), (5, .int s0)] rfl 36 rfl ?_
  refine x_aload_n dX9_seenFrom_36 rfl 37 rfl ?_
  refine gf9_1 dX9_seenFrom_37 40 rfl hk_l0 kw1_46 ?_
  refine x_iload dX9_seenFrom_40 rfl 42 rfl ?_
  obtain ⟨hin, h⟩ := h
  refine x_iaload dX9_seenFrom_42 (ly9_1 hk_l0) hin 43 rfl ?_
  refine x_iload_n dX9_seenFrom_43 rfl 44 rfl ?_
  refine x_icmp_le dX9_seenFrom_44 58 47 rfl rfl (fun hc => ?_) (fun hc => ?_)
  · have h := h.1 hc
    refine x_iinc dX9_seenFrom_58 rfl (congrArg (l4 + ·) kc_1) (Nat.le_of_ble_eq_true rfl) [(0, .ref l0), (1, .int l1), (2, .int l2), (3, .int l3), (4, .int (l4 + 1)), (5, .int s0)] rfl 61 rfl ?_
    refine x_goto dX9_seenFrom_61 7 rfl ?_
    refine x_weak [(0, .ref l0), (1, .int l1), (2, .int l2), (3, .int l3), (4, .int (l4 + 1))] [0, 1, 2, 3, 4] rfl ?_
    exact hB7 _ _ _ h
  · have h := h.2 hc
    refine x_aload_n dX9_seenFrom_47 rfl 48 rfl ?_
    refine gf9_1 dX9_seenFrom_48 51 rfl hk_l0 kw1_46 ?_
    refine x_iload dX9_seenFrom_51 rfl 53 rfl ?_
    obtain ⟨hin, h⟩ := h
    refine x_iaload dX9_seenFrom_53 (ly9_1 hk_l0) hin 54 rfl ?_
    refine x_istore_n dX9_seenFrom_54 (Nat.le_of_ble_eq_true rfl) [(0, .ref l0), (1, .int l1), (2, .int l2), (3, .int (M (l0 + 1) (ix s0))), (4, .int l4), (5, .int s0)] rfl 55 rfl ?_
    refine x_iinc dX9_seenFrom_55 rfl (congrArg (l2 + ·) kc_1) (Nat.le_of_ble_eq_true rfl) [(0, .ref l0), (1, .int l1), (2, .int (l2 + 1)), (3, .int (M (l0 + 1) (ix s0))), (4, .int l4), (5, .int s0)] rfl 58 rfl ?_
    refine x_iinc dX9_seenFrom_58 rfl (congrArg (l4 + ·) kc_1) (Nat.le_of_ble_eq_true rfl) [(0, .ref l0), (1, .int l1), (2, .int (l2 + 1)), (3, .int (M (l0 + 1) (ix s0))), (4, .int (l4 + 1)), (5, .int s0)] rfl 61 rfl ?_
    refine x_goto dX9_seenFrom_61 7 rfl ?_
    refine x_weak [(0, .ref l0), (1, .int l1), (2, .int (l2 + 1)), (3, .int (M (l0 + 1) (ix s0))), (4, .int (l4 + 1))] [0, 1, 2, 3, 4] rfl ?_
    exact hB7 _ _ _ h
def lbX9_seenFrom_7 (Q : Int32 → Prop) (l0 : Nat) (l1 : Int32) (M : Mem) (B7 : Int32 → Int32 → Int32 → Prop) (l2 : Int32) (l3 : Int32) (l4 : Int32) : Prop :=
  (((M l0 10) ≤ l4 → Q l2) ∧ (¬ (M l0 10) ≤ l4 → ((l1 = 0 → NX9_seenFrom_34 Q B7 l0 l1 l2 l3 l4 l4 M) ∧ (¬ l1 = 0 → NX9_seenFrom_34 Q B7 l0 l1 l2 l3 l4 (((M l0 10) - 1) - l4) M))))
def NX9_seenFrom_7 (Q : Int32 → Prop) (l0 : Nat) (l1 : Int32) (l2 : Int32) (l3 : Int32) (l4 : Int32) (M : Mem) : Prop := xlp (fun (B : Int32 × Int32 × Int32 → Prop) a => lbX9_seenFrom_7 Q l0 l1 M (fun l2 l3 l4 => B (l2, l3, l4)) a.1 a.2.1 a.2.2) (l2, l3, l4)
theorem nX9_seenFrom_7 {Q : Int32 → Prop} {l0 : Nat} {l1 : Int32} {l2 : Int32} {l3 : Int32} {l4 : Int32} {M : Mem} (hk_l0 : SHk l0 = 9) (h : NX9_seenFrom_7 Q l0 l1 l2 l3 l4 M) : xX RX9 cX9_seenFrom 6 (some .int) 1 7 [(0, .ref l0), (1, .int l1), (2, .int l2), (3, .int l3), (4, .int l4)] [] M (xQi (xP M Q)) := by
  obtain ⟨n, h⟩ := h
  have hB7 : ∀ (n : Nat) (l2 : Int32) (l3 : Int32) (l4 : Int32), xlpn (fun (B : Int32 × Int32 × Int32 → Prop) a => lbX9_seenFrom_7 Q l0 l1 M (fun l2 l3 l4 => B (l2, l3, l4)) a.1 a.2.1 a.2.2) n (l2, l3, l4) → xX RX9 cX9_seenFrom 6 (some .int) 1 7 [(0, .ref l0), (1, .int l1), (2, .int l2), (3, .int l3), (4, .int l4)] [] M (xQi (xP M Q)) := by
    intro n
    induction n with
    | zero => intro l2 l3 l4 h; exact False.elim h
    | succ n ih =>
      intro l2 l3 l4 h
      have hB7 := ih
      have h : lbX9_seenFrom_7 Q l0 l1 M (fun l2 l3 l4 => xlpn (fun (B : Int32 × Int32 × Int32 → Prop) a => lbX9_seenFrom_7 Q l0 l1 M (fun l2 l3 l4 => B (l2, l3, l4)) a.1 a.2.1 a.2.2) n (l2, l3, l4)) l2 l3 l4 := h
      unfold lbX9_seenFrom_7 at h
      refine x_iload dX9_seenFrom_7 rfl 9 rfl ?_
      refine x_aload_n dX9_seenFrom_9 rfl 10 rfl ?_
      refine gf9_10 dX9_seenFrom_10 13 rfl hk_l0 kw1_68 ?_
      refine x_icmp_ge dX9_seenFrom_13 64 16 rfl rfl (fun hc => ?_) (fun hc => ?_)
      · have h := h.1 hc
        refine x_iload_n dX9_seenFrom_64 rfl 65 rfl ?_
        exact x_iret dX9_seenFrom_65 ⟨rfl, h⟩
      · have h := h.2 hc
        refine x_iload_n dX9_seenFrom_16 rfl 17 rfl ?_
        refine x_if_eq dX9_seenFrom_17 32 20 rfl rfl (fun hc => ?_) (fun hc => ?_)
        · have h := h.1 hc
          refine x_iload dX9_seenFrom_32 rfl 34 rfl ?_
          exact nX9_seenFrom_34 hB7 hk_l0 h
        · have h := h.2 hc
          refine x_aload_n dX9_seenFrom_20 rfl 21 rfl ?_
          refine gf9_10 dX9_seenFrom_21 24 rfl hk_l0 kw1_68 ?_
          refine x_iconst dX9_seenFrom_24 kc_1 25 rfl ?_
          refine x_isub dX9_seenFrom_25 26 rfl ?_
          refine x_iload dX9_seenFrom_26 rfl 28 rfl ?_
          refine x_isub dX9_seenFrom_28 29 rfl ?_
          refine x_goto dX9_seenFrom_29 34 rfl ?_
          exact nX9_seenFrom_34 hB7 hk_l0 h
  exact hB7 n l2 l3 l4 h
def FX9_seenFrom (Q : Int32 → Prop) (l0 : Nat) (l1 : Int32) (M : Mem) : Prop :=
  NX9_seenFrom_7 Q l0 l1 0 0 0 M
theorem eX9_seenFrom {Q : Int32 → Prop} {l0 : Nat} {l1 : Int32} {M : Mem} (hk_l0 : SHk l0 = 9) (h : FX9_seenFrom Q l0 l1 M) : xX RX9 cX9_seenFrom 6 (some .int) 1 0 [(0, .ref l0), (1, .int l1)] [] M (xQi (xP M Q)) := by
  unfold FX9_seenFrom at h
  refine x_iconst dX9_seenFrom_0 kc_0 1 rfl ?_
  refine x_istore_n dX9_seenFrom_1 (Nat.le_of_ble_eq_true rfl) [(0, .ref l0), (1, .int l1), (2, .int 0)] rfl 2 rfl ?_
  refine x_iconst dX9_seenFrom_2 kc_0 3 rfl ?_
  refine x_istore_n dX9_seenFrom_3 (Nat.le_of_ble_eq_true rfl) [(0, .ref l0), (1, .int l1), (2, .int 0), (3, .int 0)] rfl 4 rfl ?_
  refine x_iconst dX9_seenFrom_4 kc_0 5 rfl ?_
  refine x_istore dX9_seenFrom_5 (Nat.le_of_ble_eq_true rfl) [(0, .ref l0), (1, .int l1), (2, .int 0), (3, .int 0), (4, .int 0)] rfl 7 rfl ?_
  exact nX9_seenFrom_7 hk_l0 h
theorem cX9_seenFrom_ {Q : Int32 → Prop} {l0 : Nat} {l1 : Int32} {M : Mem} (hk_l0 : SHk l0 = 9) (h : FX9_seenFrom Q l0 l1 M) : xM yX9_seenFrom cX9_seenFrom 6 (some .int) 1 [.ref l0, .int l1] M (xQi (xP M Q)) := xM_of (by decide +kernel) (Nat.le_of_ble_eq_true rfl) (eX9_seenFrom hk_l0 h)
theorem kX9_seenFrom {own : String} {cc : ByteArray} {nL : Nat} {rt : Option FieldType} {d pc ix : Nat} {L : List (Nat × Value)} {st : List Value} {M : Mem} {Rt : xGt → Array Value → State → Outcome → State → Prop} {Q : Int32 → Prop} {l0 : Nat} {l1 : Int32} (hd : decode cc pc = .ok (.invokevirtual ix, 3)) (q : Nat) (hq : pc + 3 = q) (hk_l0 : SHk l0 = 9) (w1 : Cond.methodLink own ix yX9_seenFrom ∈ xTs) (hr : 1 < d) (hst : (st.map fun v => v.category).sum ≤ 8) (h : FX9_seenFrom Q l0 l1 M) (k : ∀ (r : Int32), Q r → xX own cc nL rt d q L (.int r :: st) M Rt) : xX own cc nL rt d pc L (.int l1 :: .ref l0 :: st) M Rt :=
  x_callV_i (n := 1) (As := [.int l1]) hd q hq hk_l0 (by decide) rfl rfl w1 kw5_40 kw5_41 kw1_3 kw5_42 (by decide +kernel) rfl hr (by decide) hst _ rfl (cX9_seenFrom_ hk_l0 h) (fun r N hN => by obtain ⟨rfl, hN⟩ := hN; exact k r hN)
def NX9_storks_71 (Q : Int32 → Prop) (B4 : Int32 → Int32 → Prop) (l0 : Nat) (l1 : Int32) (l2 : Int32) (l3 : Int32) (s0 : Int32) (M : Mem) : Prop :=
  ((l3 = 0 → B4 l1 (l2 + 1)) ∧ (¬ l3 = 0 → ((s0 = 0 → B4 l1 (l2 + 1)) ∧ (¬ s0 = 0 → ∀ y1 : Int32, y1 = l1 ||| ((1 : Int32) <<< (l2 &&& 31)) → B4 y1 (l2 + 1)))))
theorem nX9_storks_71 {Q : Int32 → Prop} {B4 : Int32 → Int32 → Prop} {l0 : Nat} {l1 : Int32} {l2 : Int32} {l3 : Int32} {s0 : Int32} {M : Mem} (hB4 : ∀ (l1 : Int32) (l2 : Int32), B4 l1 l2 → xX RX9 cX9_storks 5 (some .int) 1 4 [(0, .ref l0), (1, .int l1), (2, .int l2)] [] M (xQi (xP M Q))) (hk_l0 : SHk l0 = 9) (h : NX9_storks_71 Q B4 l0 l1 l2 l3 s0 M) : xX RX9 cX9_storks 5 (some .int) 1 71 [(0, .ref l0), (1, .int l1), (2, .int l2), (3, .int l3)] [.int s0] M (xQi (xP M Q)) := by
  unfold NX9_storks_71 at h
  refine x_istore dX9_storks_71 (Nat.le_of_ble_eq_true rfl) [(0, .ref l0), (1, .int l1), (2, .int l2), (3, .int l3), (4, .int s0)] rfl 73 rfl ?_
  refine x_iload_n dX9_storks_73 rfl 74 rfl ?_
  refine x_if_eq dX9_storks_74 88 77 rfl rfl (fun hc => ?_) (fun hc => ?_)
  · have h := h.1 hc
    refine x_iinc dX9_storks_88 rfl (congrArg (l2 + ·) kc_1) (Nat.le_of_ble_eq_true rfl) [(0, .ref l0), (1, .int l1), (2, .int (l2 + 1)), (3, .int l3), (4, .int s0)] rfl 91 rfl ?_
    refine x_goto dX9_storks_91 4 rfl ?_
    refine x_weak [(0, .ref l0), (1, .int l1), (2, .int (l2 + 1))] [0, 1, 2] rfl ?_
    exact hB4 _ _ h
  · have h := h.2 hc
    refine x_iload dX9_storks_77 rfl 79 rfl ?_
    refine x_if_eq dX9_storks_79 88 82 rfl rfl (fun hc => ?_) (fun hc => ?_)
    · have h := h.1 hc
      refine x_iinc dX9_storks_88 rfl (congrArg (l2 + ·) kc_1) (Nat.le_of_ble_eq_true rfl) [(0, .ref l0), (1, .int l1), (2, .int (l2 + 1)), (3, .int l3), (4, .int s0)] rfl 91 rfl ?_
      refine x_goto dX9_storks_91 4 rfl ?_
      refine x_weak [(0, .ref l0), (1, .int l1), (2, .int (l2 + 1))] [0, 1, 2] rfl ?_
      exact hB4 _ _ h
    · have h := h.2 hc
      refine x_iload_n dX9_storks_82 rfl 83 rfl ?_
      refine x_iconst dX9_storks_83 kc_1 84 rfl ?_
      refine x_iload_n dX9_storks_84 rfl 85 rfl ?_
      refine x_ishl dX9_storks_85 86 rfl ?_
      refine x_ior dX9_storks_86 87 rfl ?_
      refine x_top (fun y1 hy1 => ?_)
      have h := h y1 hy1
      refine x_istore_n dX9_storks_87 (Nat.le_of_ble_eq_true rfl) [(0, .ref l0), (1, .int y1), (2, .int l2), (3, .int l3), (4, .int s0)] rfl 88 rfl ?_
      refine x_iinc dX9_storks_88 rfl (congrArg (l2 + ·) kc_1) (Nat.le_of_ble_eq_true rfl) [(0, .ref l0), (1, .int y1), (2, .int (l2 + 1)), (3, .int l3), (4, .int s0)] rfl 91 rfl ?_
      refine x_goto dX9_storks_91 4 rfl ?_
      refine x_weak [(0, .ref l0), (1, .int y1), (2, .int (l2 + 1))] [0, 1, 2] rfl ?_
      exact hB4 _ _ h
def NX9_storks_66 (Q : Int32 → Prop) (B4 : Int32 → Int32 → Prop) (l0 : Nat) (l1 : Int32) (l2 : Int32) (l3 : Int32) (M : Mem) : Prop :=
  NX9_storks_71 Q B4 l0 l1 l2 l3 1 M
theorem nX9_storks_66 {Q : Int32 → Prop} {B4 : Int32 → Int32 → Prop} {l0 : Nat} {l1 : Int32} {l2 : Int32} {l3 : Int32} {M : Mem} (hB4 : ∀ (l1 : Int32) (l2 : Int32), B4 l1 l2 → xX RX9 cX9_storks 5 (some .int) 1 4 [(0, .ref l0), (1, .int l1), (2, .int l2)] [] M (xQi (xP M Q))) (hk_l0 : SHk l0 = 9) (h : NX9_storks_66 Q B4 l0 l1 l2 l3 M) : xX RX9 cX9_storks 5 (some .int) 1 66 [(0, .ref l0), (1, .int l1), (2, .int l2), (3, .int l3)] [] M (xQi (xP M Q)) := by
  unfold NX9_storks_66 at h
  refine x_iconst dX9_storks_66 kc_1 67 rfl ?_
  refine x_goto dX9_storks_67 71 rfl ?_
  exact nX9_storks_71 hB4 hk_l0 h
def NX9_storks_38 (Q : Int32 → Prop) (B4 : Int32 → Int32 → Prop) (l0 : Nat) (l1 : Int32) (l2 : Int32) (s0 : Int32) (M : Mem) : Prop :=
  (((M l0 10) ≤ (l2 + 1) → NX9_storks_66 Q B4 l0 l1 l2 s0 M) ∧ (¬ (M l0 10) ≤ (l2 + 1) → vp_in l2 10 ∧ vp_in (l2 + 1) 10 ∧ (((M (l0 + 1) (ix l2)) ≤ (M (l0 + 1) (ix (l2 + 1))) → NX9_storks_71 Q B4 l0 l1 l2 s0 0 M) ∧ (¬ (M (l0 + 1) (ix l2)) ≤ (M (l0 + 1) (ix (l2 + 1))) → NX9_storks_66 Q B4 l0 l1 l2 s0 M))))
theorem nX9_storks_38 {Q : Int32 → Prop} {B4 : Int32 → Int32 → Prop} {l0 : Nat} {l1 : Int32} {l2 : Int32} {s0 : Int32} {M : Mem} (hB4 : ∀ (l1 : Int32) (l2 : Int32), B4 l1 l2 → xX RX9 cX9_storks 5 (some .int) 1 4 [(0, .ref l0), (1, .int l1), (2, .int l2)] [] M (xQi (xP M Q))) (hk_l0 : SHk l0 = 9) (h : NX9_storks_38 Q B4 l0 l1 l2 s0 M) : xX RX9 cX9_storks 5 (some .int) 1 38 [(0, .ref l0), (1, .int l1), (2, .int l2)] [.int s0] M (xQi (xP M Q)) := by
  unfold NX9_storks_38 at h
  refine x_istore_n dX9_storks_38 (Nat.le_of_ble_eq_true rfl) [(0, .ref l0), (1, .int l1), (2, .int l2), (3, .int s0)] rfl 39 rfl ?_
  refine x_iload_n dX9_storks_39 rfl 40 rfl ?_
  refine x_iconst dX9_storks_40 kc_1 41 rfl ?_
  refine x_iadd dX9_storks_41 42 rfl ?_
  refine x_aload_n dX9_storks_42 rfl 43 rfl ?_
  refine gf9_10 dX9_storks_43 46 rfl hk_l0 kw1_68 ?_
  refine x_icmp_ge dX9_storks_46 66 49 rfl rfl (fun hc => ?_) (fun hc => ?_)
  · have h := h.1 hc
    exact nX9_storks_66 hB4 hk_l0 h
  · have h := h.2 hc
    refine x_aload_n dX9_storks_49 rfl 50 rfl ?_
    refine gf9_1 dX9_storks_50 53 rfl hk_l0 kw1_46 ?_
    refine x_iload_n dX9_storks_53 rfl 54 rfl ?_
    obtain ⟨hin, h⟩ := h
    refine x_iaload dX9_storks_54 (ly9_1 hk_l0) hin 55 rfl ?_
    refine x_aload_n dX9_storks_55 rfl 56 rfl ?_
    refine gf9_1 dX9_storks_56 59 rfl hk_l0 kw1_46 ?_
    refine x_iload_n dX9_storks_59 rfl 60 rfl ?_
    refine x_iconst dX9_storks_60 kc_1 61 rfl ?_
    refine x_iadd dX9_storks_61 62 rfl ?_
    obtain ⟨hin, h⟩ := h
    refine x_iaload dX9_storks_62 (ly9_1 hk_l0) hin 63 rfl ?_
    refine x_icmp_le dX9_storks_63 70 66 rfl rfl (fun hc => ?_) (fun hc => ?_)
    · have h := h.1 hc
      refine x_iconst dX9_storks_70 kc_0 71 rfl ?_
      exact nX9_storks_71 hB4 hk_l0 h
    · have h := h.2 hc
      exact nX9_storks_66 hB4 hk_l0 h
def NX9_storks_33 (Q : Int32 → Prop) (B4 : Int32 → Int32 → Prop) (l0 : Nat) (l1 : Int32) (l2 : Int32) (M : Mem) : Prop :=
  NX9_storks_38 Q B4 l0 l1 l2 1 M
theorem nX9_storks_33 {Q : Int32 → Prop} {B4 : Int32 → Int32 → Prop} {l0 : Nat} {l1 : Int32} {l2 : Int32} {M : Mem} (hB4 : ∀ (l1 : Int32) (l2 : Int32), B4 l1 l2 → xX RX9 cX9_storks 5 (some .int) 1 4 [(0, .ref l0), (1, .int l1), (2, .int l2)] [] M (xQi (xP M Q))) (hk_l0 : SHk l0 = 9) (h : NX9_storks_33 Q B4 l0 l1 l2 M) : xX RX9 cX9_storks 5 (some .int) 1 33 [(0, .ref l0), (1, .int l1), (2, .int l2)] [] M (xQi (xP M Q)) := by
  unfold NX9_storks_33 at h
  refine x_iconst dX9_storks_33 kc_1 34 rfl ?_
  refine x_goto dX9_storks_34 38 rfl ?_
  exact nX9_storks_38 hB4 hk_l0 h
def lbX9_storks_4 (Q : Int32 → Prop) (l0 : Nat) (M : Mem) (B4 : Int32 → Int32 → Prop) (l1 : Int32) (l2 : Int32) : Prop :=
  (((M l0 10) ≤ l2 → Q l1) ∧ (¬ (M l0 10) ≤ l2 → ((l2 = 0 → NX9_storks_33 Q B4 l0 l1 l2 M) ∧ (¬ l2 = 0 → vp_in l2 10 ∧ vp_in (l2 - 1) 10 ∧ (((M (l0 + 1) (ix l2)) ≤ (M (l0 + 1) (ix (l2 - 1))) → NX9_storks_38 Q B4 l0 l1 l2 0 M) ∧ (¬ (M (l0 + 1) (ix l2)) ≤ (M (l0 + 1) (ix (l2 - 1))) → NX9_storks_33 Q B4 l0 l1 l2 M))))))
def NX9_storks_4 (Q : Int32 → Prop) (l0 : Nat) (l1 : Int32) (l2 : Int32) (M : Mem) : Prop := xlp (fun (B : Int32 × Int32 → Prop) a => lbX9_storks_4 Q l0 M (fun l1 l2 => B (l1, l2)) a.1 a.2) (l1, l2)
theorem nX9_storks_4 {Q : Int32 → Prop} {l0 : Nat} {l1 : Int32} {l2 : Int32} {M : Mem} (hk_l0 : SHk l0 = 9) (h : NX9_storks_4 Q l0 l1 l2 M) : xX RX9 cX9_storks 5 (some .int) 1 4 [(0, .ref l0), (1, .int l1), (2, .int l2)] [] M (xQi (xP M Q)) := by
  obtain ⟨n, h⟩ := h
  have hB4 : ∀ (n : Nat) (l1 : Int32) (l2 : Int32), xlpn (fun (B : Int32 × Int32 → Prop) a => lbX9_storks_4 Q l0 M (fun l1 l2 => B (l1, l2)) a.1 a.2) n (l1, l2) → xX RX9 cX9_storks 5 (some .int) 1 4 [(0, .ref l0), (1, .int l1), (2, .int l2)] [] M (xQi (xP M Q)) := by
    intro n
    induction n with
    | zero => intro l1 l2 h; exact False.elim h
    | succ n ih =>
      intro l1 l2 h
      have hB4 := ih
      have h : lbX9_storks_4 Q l0 M (fun l1 l2 => xlpn (fun (B : Int32 × Int32 → Prop) a => lbX9_storks_4 Q l0 M (fun l1 l2 => B (l1, l2)) a.1 a.2) n (l1, l2)) l1 l2 := h
      unfold lbX9_storks_4 at h
      refine x_iload_n dX9_storks_4 rfl 5 rfl ?_
      refine x_aload_n dX9_storks_5 rfl 6 rfl ?_
      refine gf9_10 dX9_storks_6 9 rfl hk_l0 kw1_68 ?_
      refine x_icmp_ge dX9_storks_9 94 12 rfl rfl (fun hc => ?_) (fun hc => ?_)
      · have h := h.1 hc
        refine x_iload_n dX9_storks_94 rfl 95 rfl ?_
        exact x_iret dX9_storks_95 ⟨rfl, h⟩
      · have h := h.2 hc
        refine x_iload_n dX9_storks_12 rfl 13 rfl ?_
        refine x_if_eq dX9_storks_13 33 16 rfl rfl (fun hc => ?_) (fun hc => ?_)
        · have h := h.1 hc
          exact nX9_storks_33 hB4 hk_l0 h
        · have h := h.2 hc
          refine x_aload_n dX9_storks_16 rfl 17 rfl ?_
          refine gf9_1 dX9_storks_17 20 rfl hk_l0 kw1_46 ?_
          refine x_iload_n dX9_storks_20 rfl 21 rfl ?_
          obtain ⟨hin, h⟩ := h
          refine x_iaload dX9_storks_21 (ly9_1 hk_l0) hin 22 rfl ?_
          refine x_aload_n dX9_storks_22 rfl 23 rfl ?_
          refine gf9_1 dX9_storks_23 26 rfl hk_l0 kw1_46 ?_
          refine x_iload_n dX9_storks_26 rfl 27 rfl ?_
          refine x_iconst dX9_storks_27 kc_1 28 rfl ?_
          refine x_isub dX9_storks_28 29 rfl ?_
          obtain ⟨hin, h⟩ := h
          refine x_iaload dX9_storks_29 (ly9_1 hk_l0) hin 30 rfl ?_
          refine x_icmp_le dX9_storks_30 37 33 rfl rfl (fun hc => ?_) (fun hc => ?_)
          · have h := h.1 hc
            refine x_iconst dX9_storks_37 kc_0 38 rfl ?_
            exact nX9_storks_38 hB4 hk_l0 h
          · have h := h.2 hc
            exact nX9_storks_33 hB4 hk_l0 h
  exact hB4 n l1 l2 h
def FX9_storks (Q : Int32 → Prop) (l0 : Nat) (M : Mem) : Prop :=
  NX9_storks_4 Q l0 0 0 M
theorem eX9_storks {Q : Int32 → Prop} {l0 : Nat} {M : Mem} (hk_l0 : SHk l0 = 9) (h : FX9_storks Q l0 M) : xX RX9 cX9_storks 5 (some .int) 1 0 [(0, .ref l0)] [] M (xQi (xP M Q)) := by
  unfold FX9_storks at h
  refine x_iconst dX9_storks_0 kc_0 1 rfl ?_
  refine x_istore_n dX9_storks_1 (Nat.le_of_ble_eq_true rfl) [(0, .ref l0), (1, .int 0)] rfl 2 rfl ?_
  refine x_iconst dX9_storks_2 kc_0 3 rfl ?_
  refine x_istore_n dX9_storks_3 (Nat.le_of_ble_eq_true rfl) [(0, .ref l0), (1, .int 0), (2, .int 0)] rfl 4 rfl ?_
  exact nX9_storks_4 hk_l0 h
theorem cX9_storks_ {Q : Int32 → Prop} {l0 : Nat} {M : Mem} (hk_l0 : SHk l0 = 9) (h : FX9_storks Q l0 M) : xM yX9_storks cX9_storks 5 (some .int) 1 [.ref l0] M (xQi (xP M Q)) := xM_of (by decide +kernel) (Nat.le_of_ble_eq_true rfl) (eX9_storks hk_l0 h)
theorem kX9_storks {own : String} {cc : ByteArray} {nL : Nat} {rt : Option FieldType} {d pc ix : Nat} {L : List (Nat × Value)} {st : List Value} {M : Mem} {Rt : xGt → Array Value → State → Outcome → State → Prop} {Q : Int32 → Prop} {l0 : Nat} (hd : decode cc pc = .ok (.invokevirtual ix, 3)) (q : Nat) (hq : pc + 3 = q) (hk_l0 : SHk l0 = 9) (w1 : Cond.methodLink own ix yX9_storks ∈ xTs) (hr : 1 < d) (hst : (st.map fun v => v.category).sum ≤ 8) (h : FX9_storks Q l0 M) (k : ∀ (r : Int32), Q r → xX own cc nL rt d q L (.int r :: st) M Rt) : xX own cc nL rt d pc L (.ref l0 :: st) M Rt :=
  x_callV_i (n := 0) (As := []) hd q hq hk_l0 (by decide) rfl rfl w1 kw5_44 kw5_45 kw1_3 kw5_46 (by decide +kernel) rfl hr (by decide) hst _ rfl (cX9_storks_ hk_l0 h) (fun r N hN => by obtain ⟨rfl, hN⟩ := hN; exact k r hN)
def lbX9_hearOneAnother_50 (Q : Bool → Prop) (l0 : Nat) (l3 : Int32) (l4 : Int32) (M : Mem) (B50 : Int32 → Prop) (l5 : Int32) : Prop :=
  ((l4 ≤ l5 → Q true) ∧ (¬ l4 ≤ l5 → vp_in l5 10 ∧ (((M (l0 + 1) (ix l5)) < l3 → B50 (l5 + 1)) ∧ (¬ (M (l0 + 1) (ix l5)) < l3 → Q false))))
def NX9_hearOneAnother_50 (Q : Bool → Prop) (l0 : Nat) (l3 : Int32) (l4 : Int32) (l5 : Int32) (M : Mem) : Prop := xlp (fun (B : Int32 → Prop) a => lbX9_hearOneAnother_50 Q l0 l3 l4 M (fun l5 => B (l5)) a) (l5)
theorem nX9_hearOneAnother_50 {Q : Bool → Prop} {l0 : Nat} {l3 : Int32} {l4 : Int32} {l5 : Int32} {M : Mem} (hk_l0 : SHk l0 = 9) (h : NX9_hearOneAnother_50 Q l0 l3 l4 l5 M) : xX RX9 cX9_hearOneAnother 6 (some .boolean) 2 50 [(0, .ref l0), (3, .int l3), (4, .int l4), (5, .int l5)] [] M (xQb (xP M Q)) := by
  obtain ⟨n, h⟩ := h
  have hB50 : ∀ (n : Nat) (l5 : Int32), xlpn (fun (B : Int32 → Prop) a => lbX9_hearOneAnother_50 Q l0 l3 l4 M (fun l5 => B (l5)) a) n (l5) → xX RX9 cX9_hearOneAnother 6 (some .boolean) 2 50 [(0, .ref l0), (3, .int l3), (4, .int l4), (5, .int l5)] [] M (xQb (xP M Q)) := by
    intro n
    induction n with
    | zero => intro l5 h; exact False.elim h
    | succ n ih =>
      intro l5 h
      have hB50 := ih
      have h : lbX9_hearOneAnother_50 Q l0 l3 l4 M (fun l5 => xlpn (fun (B : Int32 → Prop) a => lbX9_hearOneAnother_50 Q l0 l3 l4 M (fun l5 => B (l5)) a) n (l5)) l5 := h
      unfold lbX9_hearOneAnother_50 at h
      refine x_iload dX9_hearOneAnother_50 rfl 52 rfl ?_
      refine x_iload dX9_hearOneAnother_52 rfl 54 rfl ?_
      refine x_icmp_ge dX9_hearOneAnother_54 76 57 rfl rfl (fun hc => ?_) (fun hc => ?_)
      · have h := h.1 hc
        refine x_iconst dX9_hearOneAnother_76 kc_1 77 rfl ?_
        exact x_zret (z := true) dX9_hearOneAnother_77 ⟨rfl, h⟩
      · have h := h.2 hc
        refine x_aload_n dX9_hearOneAnother_57 rfl 58 rfl ?_
        refine gf9_1 dX9_hearOneAnother_58 61 rfl hk_l0 kw1_46 ?_
        refine x_iload dX9_hearOneAnother_61 rfl 63 rfl ?_
        obtain ⟨hin, h⟩ := h
        refine x_iaload dX9_hearOneAnother_63 (ly9_1 hk_l0) hin 64 rfl ?_
        refine x_iload_n dX9_hearOneAnother_64 rfl 65 rfl ?_
        refine x_icmp_lt dX9_hearOneAnother_65 70 68 rfl rfl (fun hc => ?_) (fun hc => ?_)
        · have h := h.1 hc
          refine x_iinc dX9_hearOneAnother_70 rfl (congrArg (l5 + ·) kc_1) (Nat.le_of_ble_eq_true rfl) [(0, .ref l0), (3, .int l3), (4, .int l4), (5, .int (l5 + 1))] rfl 73 rfl ?_
          refine x_goto dX9_hearOneAnother_73 50 rfl ?_
          exact hB50 _ h
        · have h := h.2 hc
          refine x_iconst dX9_hearOneAnother_68 kc_0 69 rfl ?_
          exact x_zret (z := false) dX9_hearOneAnother_69 ⟨rfl, h⟩
  exact hB50 n l5 h
def FX9_hearOneAnother (Q : Bool → Prop) (l0 : Nat) (l1 : Int32) (l2 : Int32) (M : Mem) : Prop :=
  FX9_isPillar (fun (r1 : Bool) => ((r1 = false → Q false) ∧ (r1 = true → FX9_isPillar (fun (r2 : Bool) => ((r2 = true → vp_in l1 10 ∧ vp_in l2 10 ∧ FJ9_min_7cf53 (fun (r3 : Int32) => FJ9_max_7cf53 (fun (r4 : Int32) => FJ9_min_7cf53 (fun (r5 : Int32) => NX9_hearOneAnother_50 Q l0 r3 r4 (r5 + 1) M) l1 l2 M) l1 l2 M) (M (l0 + 1) (ix l1)) (M (l0 + 1) (ix l2)) M) ∧ (r2 = false → Q false))) l0 l2 M))) l0 l1 M
theorem eX9_hearOneAnother {Q : Bool → Prop} {l0 : Nat} {l1 : Int32} {l2 : Int32} {M : Mem} (hk_l0 : SHk l0 = 9) (h : FX9_hearOneAnother Q l0 l1 l2 M) : xX RX9 cX9_hearOneAnother 6 (some .boolean) 2 0 [(0, .ref l0), (1, .int l1), (2, .int l2)] [] M (xQb (xP M Q)) := by
  unfold FX9_hearOneAnother at h
  refine x_aload_n dX9_hearOneAnother_0 rfl 1 rfl ?_
  refine x_iload_n dX9_hearOneAnother_1 rfl 2 rfl ?_
  refine kX9_isPillar dX9_hearOneAnother_2 5 rfl hk_l0 kw3_13 (Nat.le_of_ble_eq_true rfl) (Nat.le_of_ble_eq_true rfl) h (fun r1 h => ?_)
  refine x_if_eq_b dX9_hearOneAnother_5 16 8 rfl rfl (fun hc => ?_) (fun hc => ?_)
  · have h := h.1 hc
    refine x_iconst dX9_hearOneAnother_16 kc_0 17 rfl ?_
    exact x_zret (z := false) dX9_hearOneAnother_17 ⟨rfl, h⟩
  · have h := h.2 hc
    refine x_aload_n dX9_hearOneAnother_8 rfl 9 rfl ?_
    refine x_iload_n dX9_hearOneAnother_9 rfl 10 rfl ?_
    refine kX9_isPillar dX9_hearOneAnother_10 13 rfl hk_l0 kw3_13 (Nat.le_of_ble_eq_true rfl) (Nat.le_of_ble_eq_true rfl) h (fun r2 h => ?_)
    refine x_if_ne_b dX9_hearOneAnother_13 18 16 rfl rfl (fun hc => ?_) (fun hc => ?_)
    · have h := h.1 hc
      refine x_aload_n dX9_hearOneAnother_18 rfl 19 rfl ?_
      refine gf9_1 dX9_hearOneAnother_19 22 rfl hk_l0 kw1_46 ?_
      refine x_iload_n dX9_hearOneAnother_22 rfl 23 rfl ?_
      obtain ⟨hin, h⟩ := h
      refine x_iaload dX9_hearOneAnother_23 (ly9_1 hk_l0) hin 24 rfl ?_
      refine x_aload_n dX9_hearOneAnother_24 rfl 25 rfl ?_
      refine gf9_1 dX9_hearOneAnother_25 28 rfl hk_l0 kw1_46 ?_
      refine x_iload_n dX9_hearOneAnother_28 rfl 29 rfl ?_
      obtain ⟨hin, h⟩ := h
      refine x_iaload dX9_hearOneAnother_29 (ly9_1 hk_l0) hin 30 rfl ?_
      refine kJ9_min_7cf53 dX9_hearOneAnother_30 33 rfl kw3_29 (Nat.le_of_ble_eq_true rfl) (Nat.le_of_ble_eq_true rfl) h (fun r3 h => ?_)
      refine x_istore_n dX9_hearOneAnother_33 (Nat.le_of_ble_eq_true rfl) [(0, .ref l0), (1, .int l1), (2, .int l2), (3, .int r3)] rfl 34 rfl ?_
      refine x_iload_n dX9_hearOneAnother_34 rfl 35 rfl ?_
      refine x_iload_n dX9_hearOneAnother_35 rfl 36 rfl ?_
      refine kJ9_max_7cf53 dX9_hearOneAnother_36 39 rfl kw3_127 (Nat.le_of_ble_eq_true rfl) (Nat.le_of_ble_eq_true rfl) h (fun r4 h => ?_)
      refine x_istore dX9_hearOneAnother_39 (Nat.le_of_ble_eq_true rfl) [(0, .ref l0), (1, .int l1), (2, .int l2), (3, .int r3), (4, .int r4)] rfl 41 rfl ?_
      refine x_iload_n dX9_hearOneAnother_41 rfl 42 rfl ?_
      refine x_iload_n dX9_hearOneAnother_42 rfl 43 rfl ?_
      refine kJ9_min_7cf53 dX9_hearOneAnother_43 46 rfl kw3_29 (Nat.le_of_ble_eq_true rfl) (Nat.le_of_ble_eq_true rfl) h (fun r5 h => ?_)
      refine x_iconst dX9_hearOneAnother_46 kc_1 47 rfl ?_
      refine x_iadd dX9_hearOneAnother_47 48 rfl ?_
      refine x_istore dX9_hearOneAnother_48 (Nat.le_of_ble_eq_true rfl) [(0, .ref l0), (1, .int l1), (2, .int l2), (3, .int r3), (4, .int r4), (5, .int (r5 + 1))] rfl 50 rfl ?_
      refine x_weak [(0, .ref l0), (3, .int r3), (4, .int r4), (5, .int (r5 + 1))] [0, 3, 4, 5] rfl ?_
      exact nX9_hearOneAnother_50 hk_l0 h
    · have h := h.2 hc
      refine x_iconst dX9_hearOneAnother_16 kc_0 17 rfl ?_
      exact x_zret (z := false) dX9_hearOneAnother_17 ⟨rfl, h⟩
theorem cX9_hearOneAnother_ {Q : Bool → Prop} {l0 : Nat} {l1 : Int32} {l2 : Int32} {M : Mem} (hk_l0 : SHk l0 = 9) (h : FX9_hearOneAnother Q l0 l1 l2 M) : xM yX9_hearOneAnother cX9_hearOneAnother 6 (some .boolean) 2 [.ref l0, .int l1, .int l2] M (xQb (xP M Q)) := xM_of (by decide +kernel) (Nat.le_of_ble_eq_true rfl) (eX9_hearOneAnother hk_l0 h)
theorem kX9_hearOneAnother {own : String} {cc : ByteArray} {nL : Nat} {rt : Option FieldType} {d pc ix : Nat} {L : List (Nat × Value)} {st : List Value} {M : Mem} {Rt : xGt → Array Value → State → Outcome → State → Prop} {Q : Bool → Prop} {l0 : Nat} {l1 : Int32} {l2 : Int32} (hd : decode cc pc = .ok (.invokevirtual ix, 3)) (q : Nat) (hq : pc + 3 = q) (hk_l0 : SHk l0 = 9) (w1 : Cond.methodLink own ix yX9_hearOneAnother ∈ xTs) (hr : 2 < d) (hst : (st.map fun v => v.category).sum ≤ 8) (h : FX9_hearOneAnother Q l0 l1 l2 M) (k : ∀ (r : Bool), Q r → xX own cc nL rt d q L (.int (bI r) :: st) M Rt) : xX own cc nL rt d pc L (.int l2 :: .int l1 :: .ref l0 :: st) M Rt :=
  x_callV_b (n := 2) (As := [.int l1, .int l2]) hd q hq hk_l0 (by decide) rfl rfl w1 kw5_52 kw5_53 kw1_3 kw5_54 (by decide +kernel) rfl hr (by decide) hst _ rfl (cX9_hearOneAnother_ hk_l0 h) (fun r N hN => by obtain ⟨rfl, hN⟩ := hN; exact k r hN)
def FX9_heap (Q : Int32 → Prop) (l0 : Nat) (l1 : Int32) (M : Mem) : Prop :=
  FX9_sitterOn (fun (r1 : Int32) => FX9_isSaint (fun (r2 : Bool) => ((r2 = false → Q 0) ∧ (r2 = true → vp_in r1 14 ∧ FJ9_abs_0f7a4 (fun (r3 : Int32) => Q r3) (M (l0 + 6) (ix r1)) M))) l0 r1 M) l0 l1 M
theorem eX9_heap {Q : Int32 → Prop} {l0 : Nat} {l1 : Int32} {M : Mem} (hk_l0 : SHk l0 = 9) (h : FX9_heap Q l0 l1 M) : xX RX9 cX9_heap 3 (some .int) 3 0 [(0, .ref l0), (1, .int l1)] [] M (xQi (xP M Q)) := by
  unfold FX9_heap at h
  refine x_aload_n dX9_heap_0 rfl 1 rfl ?_
  refine x_iload_n dX9_heap_1 rfl 2 rfl ?_
  refine kX9_sitterOn dX9_heap_2 5 rfl hk_l0 kw5_121 (Nat.le_of_ble_eq_true rfl) (Nat.le_of_ble_eq_true rfl) h (fun r1 h => ?_)
  refine x_istore_n dX9_heap_5 (Nat.le_of_ble_eq_true rfl) [(0, .ref l0), (1, .int l1), (2, .int r1)] rfl 6 rfl ?_
  refine x_aload_n dX9_heap_6 rfl 7 rfl ?_
  refine x_iload_n dX9_heap_7 rfl 8 rfl ?_
  refine kX9_isSaint dX9_heap_8 11 rfl hk_l0 kw2_233 (Nat.le_of_ble_eq_true rfl) (Nat.le_of_ble_eq_true rfl) h (fun r2 h => ?_)
  refine x_if_eq_b dX9_heap_11 26 14 rfl rfl (fun hc => ?_) (fun hc => ?_)
  · have h := h.1 hc
    refine x_iconst dX9_heap_26 kc_0 27 rfl ?_
    exact x_iret dX9_heap_27 ⟨rfl, h⟩
  · have h := h.2 hc
    refine x_aload_n dX9_heap_14 rfl 15 rfl ?_
    refine gf9_6 dX9_heap_15 18 rfl hk_l0 kw1_60 ?_
    refine x_iload_n dX9_heap_18 rfl 19 rfl ?_
    obtain ⟨hin, h⟩ := h
    refine x_iaload dX9_heap_19 (ly9_6 hk_l0) hin 20 rfl ?_
    refine kJ9_abs_0f7a4 dX9_heap_20 23 rfl kw5_0 (Nat.le_of_ble_eq_true rfl) (Nat.le_of_ble_eq_true rfl) h (fun r3 h => ?_)
    refine x_goto dX9_heap_23 27 rfl ?_
    exact x_iret dX9_heap_27 ⟨rfl, h⟩
theorem cX9_heap_ {Q : Int32 → Prop} {l0 : Nat} {l1 : Int32} {M : Mem} (hk_l0 : SHk l0 = 9) (h : FX9_heap Q l0 l1 M) : xM yX9_heap cX9_heap 3 (some .int) 3 [.ref l0, .int l1] M (xQi (xP M Q)) := xM_of (by decide +kernel) (Nat.le_of_ble_eq_true rfl) (eX9_heap hk_l0 h)
theorem kX9_heap {own : String} {cc : ByteArray} {nL : Nat} {rt : Option FieldType} {d pc ix : Nat} {L : List (Nat × Value)} {st : List Value} {M : Mem} {Rt : xGt → Array Value → State → Outcome → State → Prop} {Q : Int32 → Prop} {l0 : Nat} {l1 : Int32} (hd : decode cc pc = .ok (.invokevirtual ix, 3)) (q : Nat) (hq : pc + 3 = q) (hk_l0 : SHk l0 = 9) (w1 : Cond.methodLink own ix yX9_heap ∈ xTs) (hr : 3 < d) (hst : (st.map fun v => v.category).sum ≤ 8) (h : FX9_heap Q l0 l1 M) (k : ∀ (r : Int32), Q r → xX own cc nL rt d q L (.int r :: st) M Rt) : xX own cc nL rt d pc L (.int l1 :: .ref l0 :: st) M Rt :=
  x_callV_i (n := 1) (As := [.int l1]) hd q hq hk_l0 (by decide) rfl rfl w1 kw5_118 kw5_119 kw1_3 kw5_120 (by decide +kernel) rfl hr (by decide) hst _ rfl (cX9_heap_ hk_l0 h) (fun r N hN => by obtain ⟨rfl, hN⟩ := hN; exact k r hN)
def FX9_nimber (Q : Int32 → Prop) (l0 : Nat) (l1 : Int32) (l2 : Int32) (M : Mem) : Prop :=
  ((0 ≤ l1 → FX9_heap (fun (r1 : Int32) => FJ9_max_7cf53 (fun (r2 : Int32) => (¬ ((l1 + 2) : Int32) = 0) ∧ Q (r2 - r2 / (l1 + 2) * (l1 + 2))) 0 (r1 - l2) M) l0 l1 M) ∧ (¬ 0 ≤ l1 → Q 0))
theorem eX9_nimber {Q : Int32 → Prop} {l0 : Nat} {l1 : Int32} {l2 : Int32} {M : Mem} (hk_l0 : SHk l0 = 9) (h : FX9_nimber Q l0 l1 l2 M) : xX RX9 cX9_nimber 3 (some .int) 4 0 [(0, .ref l0), (1, .int l1), (2, .int l2)] [] M (xQi (xP M Q)) := by
  unfold FX9_nimber at h
  refine x_iload_n dX9_nimber_0 rfl 1 rfl ?_
  refine x_if_ge dX9_nimber_1 8 4 rfl rfl (fun hc => ?_) (fun hc => ?_)
  · have h := h.1 hc
    refine x_iconst dX9_nimber_8 kc_0 9 rfl ?_
    refine x_aload_n dX9_nimber_9 rfl 10 rfl ?_
    refine x_iload_n dX9_nimber_10 rfl 11 rfl ?_
    refine kX9_heap dX9_nimber_11 14 rfl hk_l0 kw5_117 (Nat.le_of_ble_eq_true rfl) (Nat.le_of_ble_eq_true rfl) h (fun r1 h => ?_)
    refine x_iload_n dX9_nimber_14 rfl 15 rfl ?_
    refine x_isub dX9_nimber_15 16 rfl ?_
    refine kJ9_max_7cf53 dX9_nimber_16 19 rfl kw3_127 (Nat.le_of_ble_eq_true rfl) (Nat.le_of_ble_eq_true rfl) h (fun r2 h => ?_)
    refine x_iload_n dX9_nimber_19 rfl 20 rfl ?_
    refine x_iconst dX9_nimber_20 kc_2 21 rfl ?_
    refine x_iadd dX9_nimber_21 22 rfl ?_
    obtain ⟨hne, h⟩ := h
    refine x_irem dX9_nimber_22 hne 23 rfl ?_
    exact x_iret dX9_nimber_23 ⟨rfl, h⟩
  · have h := h.2 hc
    refine x_iconst dX9_nimber_4 kc_0 5 rfl ?_
    refine x_goto dX9_nimber_5 23 rfl ?_
    exact x_iret dX9_nimber_23 ⟨rfl, h⟩
theorem cX9_nimber_ {Q : Int32 → Prop} {l0 : Nat} {l1 : Int32} {l2 : Int32} {M : Mem} (hk_l0 : SHk l0 = 9) (h : FX9_nimber Q l0 l1 l2 M) : xM yX9_nimber cX9_nimber 3 (some .int) 4 [.ref l0, .int l1, .int l2] M (xQi (xP M Q)) := xM_of (by decide +kernel) (Nat.le_of_ble_eq_true rfl) (eX9_nimber hk_l0 h)
theorem kX9_nimber {own : String} {cc : ByteArray} {nL : Nat} {rt : Option FieldType} {d pc ix : Nat} {L : List (Nat × Value)} {st : List Value} {M : Mem} {Rt : xGt → Array Value → State → Outcome → State → Prop} {Q : Int32 → Prop} {l0 : Nat} {l1 : Int32} {l2 : Int32} (hd : decode cc pc = .ok (.invokevirtual ix, 3)) (q : Nat) (hq : pc + 3 = q) (hk_l0 : SHk l0 = 9) (w1 : Cond.methodLink own ix yX9_nimber ∈ xTs) (hr : 4 < d) (hst : (st.map fun v => v.category).sum ≤ 8) (h : FX9_nimber Q l0 l1 l2 M) (k : ∀ (r : Int32), Q r → xX own cc nL rt d q L (.int r :: st) M Rt) : xX own cc nL rt d pc L (.int l2 :: .int l1 :: .ref l0 :: st) M Rt :=
  x_callV_i (n := 2) (As := [.int l1, .int l2]) hd q hq hk_l0 (by decide) rfl rfl w1 kw5_114 kw5_115 kw1_3 kw5_116 (by decide +kernel) rfl hr (by decide) hst _ rfl (cX9_nimber_ hk_l0 h) (fun r N hN => by obtain ⟨rfl, hN⟩ := hN; exact k r hN)
def FX10_tell (Q : Int32 → Mem → Prop) (l0 : Nat) (l1 : Int32) (l2 : Int32) (M : Mem) : Prop :=
  (((M l0 3) < 7 → vp_in (M l0 3) 7 ∧ ∀ M1 : Mem, M1 = xu M (l0 + 1) (ix (M l0 3)) l1 → vp_in (M1 l0 3) 7 ∧ ∀ M2 : Mem, M2 = xu M1 (l0 + 2) (ix (M1 l0 3)) l2 → ∀ M3 : Mem, M3 = xu M2 l0 3 ((M2 l0 3) + 1) → Q (M3 l0 3) M3) ∧ (¬ (M l0 3) < 7 → Q (-1) M))
theorem eX10_tell {Q : Int32 → Mem → Prop} {l0 : Nat} {l1 : Int32} {l2 : Int32} {M : Mem} (hk_l0 : SHk l0 = 10) (h : FX10_tell Q l0 l1 l2 M) : xX RX10 cX10_tell 3 (some .int) 1 0 [(0, .ref l0), (1, .int l1), (2, .int l2)] [] M (xQi Q) := by
  unfold FX10_tell at h
  refine x_aload_n dX10_tell_0 rfl 1 rfl ?_
  refine gf10_3 dX10_tell_1 4 rfl hk_l0 kw1_238 ?_
  refine x_bipush dX10_tell_4 kb_7 6 rfl ?_
  refine x_icmp_lt dX10_tell_6 11 9 rfl rfl (fun hc => ?_) (fun hc => ?_)
  · have h := h.1 hc
    refine x_aload_n dX10_tell_11 rfl 12 rfl ?_
    refine gf10_0 dX10_tell_12 15 rfl hk_l0 kw1_235 ?_
    refine x_aload_n dX10_tell_15 rfl 16 rfl ?_
    refine gf10_3 dX10_tell_16 19 rfl hk_l0 kw1_238 ?_
    refine x_iload_n dX10_tell_19 rfl 20 rfl ?_
    obtain ⟨hin, h⟩ := h
    refine x_iastore dX10_tell_20 (ly10_0 hk_l0) hin 21 rfl (x_mem (fun M1 hM1 => ?_))
    have h := h M1 hM1
    refine x_aload_n dX10_tell_21 rfl 22 rfl ?_
    refine gf10_1 dX10_tell_22 25 rfl hk_l0 kw1_236 ?_
    refine x_aload_n dX10_tell_25 rfl 26 rfl ?_
    refine gf10_3 dX10_tell_26 29 rfl hk_l0 kw1_238 ?_
    refine x_iload_n dX10_tell_29 rfl 30 rfl ?_
    obtain ⟨hin, h⟩ := h
    refine x_iastore dX10_tell_30 (ly10_1 hk_l0) hin 31 rfl (x_mem (fun M2 hM2 => ?_))
    have h := h M2 hM2
    refine x_aload_n dX10_tell_31 rfl 32 rfl ?_
    refine x_dup dX10_tell_32 rfl 33 rfl ?_
    refine gf10_3 dX10_tell_33 36 rfl hk_l0 kw1_238 ?_
    refine x_iconst dX10_tell_36 kc_1 37 rfl ?_
    refine x_iadd dX10_tell_37 38 rfl ?_
    refine pf10_3 dX10_tell_38 41 rfl hk_l0 kw1_238 (x_mem (fun M3 hM3 => ?_))
    have h := h M3 hM3
    refine x_aload_n dX10_tell_41 rfl 42 rfl ?_
    refine gf10_3 dX10_tell_42 45 rfl hk_l0 kw1_238 ?_
    exact x_iret dX10_tell_45 h
  · have h := h.2 hc
    refine x_iconst dX10_tell_9 kc_m1 10 rfl ?_
    exact x_iret dX10_tell_10 h
theorem cX10_tell_ {Q : Int32 → Mem → Prop} {l0 : Nat} {l1 : Int32} {l2 : Int32} {M : Mem} (hk_l0 : SHk l0 = 10) (h : FX10_tell Q l0 l1 l2 M) : xM yX10_tell cX10_tell 3 (some .int) 1 [.ref l0, .int l1, .int l2] M (xQi Q) := xM_of (by decide +kernel) (Nat.le_of_ble_eq_true rfl) (eX10_tell hk_l0 h)
theorem kX10_tell {own : String} {cc : ByteArray} {nL : Nat} {rt : Option FieldType} {d pc ix : Nat} {L : List (Nat × Value)} {st : List Value} {M : Mem} {Rt : xGt → Array Value → State → Outcome → State → Prop} {Q : Int32 → Mem → Prop} {l0 : Nat} {l1 : Int32} {l2 : Int32} (hd : decode cc pc = .ok (.invokevirtual ix, 3)) (q : Nat) (hq : pc + 3 = q) (hk_l0 : SHk l0 = 10) (w1 : Cond.methodLink own ix yX10_tell ∈ xTs) (hr : 1 < d) (hst : (st.map fun v => v.category).sum ≤ 8) (h : FX10_tell Q l0 l1 l2 M) (k : ∀ (r : Int32) (N : Mem), Q r N → xX own cc nL rt d q L (.int r :: st) N Rt) : xX own cc nL rt d pc L (.int l2 :: .int l1 :: .ref l0 :: st) M Rt :=
  x_callV_i (n := 2) (As := [.int l1, .int l2]) hd q hq hk_l0 (by decide) rfl rfl w1 kw5_61 kw5_62 kw1_9 kw5_63 (by decide +kernel) rfl hr (by decide) hst _ rfl (cX10_tell_ hk_l0 h) k
def FX10_isBefore (Q : Bool → Prop) (l0 : Nat) (l1 : Int32) (l2 : Int32) (M : Mem) : Prop :=
  ((l1 < 0 → Q false) ∧ (¬ l1 < 0 → ((l2 < 0 → Q false) ∧ (¬ l2 < 0 → (((M l0 3) ≤ l1 → Q false) ∧ (¬ (M l0 3) ≤ l1 → ((l2 < (M l0 3) → vp_in l1 7 ∧ vp_in l2 7 ∧ vp_in l2 7 ∧ vp_in l1 7 ∧ ((((M (l0 + 1) (ix l2)) * (M (l0 + 2) (ix l1))) ≤ ((M (l0 + 1) (ix l1)) * (M (l0 + 2) (ix l2))) → Q false) ∧ (¬ ((M (l0 + 1) (ix l2)) * (M (l0 + 2) (ix l1))) ≤ ((M (l0 + 1) (ix l1)) * (M (l0 + 2) (ix l2))) → Q true))) ∧ (¬ l2 < (M l0 3) → Q false))))))))
theorem eX10_isBefore {Q : Bool → Prop} {l0 : Nat} {l1 : Int32} {l2 : Int32} {M : Mem} (hk_l0 : SHk l0 = 10) (h : FX10_isBefore Q l0 l1 l2 M) : xX RX10 cX10_isBefore 3 (some .boolean) 1 0 [(0, .ref l0), (1, .int l1), (2, .int l2)] [] M (xQb (xP M Q)) := by
  unfold FX10_isBefore at h
  refine x_iload_n dX10_isBefore_0 rfl 1 rfl ?_
  refine x_if_lt dX10_isBefore_1 24 4 rfl rfl (fun hc => ?_) (fun hc => ?_)
  · have h := h.1 hc
    refine x_iconst dX10_isBefore_24 kc_0 25 rfl ?_
    exact x_zret (z := false) dX10_isBefore_25 ⟨rfl, h⟩
  · have h := h.2 hc
    refine x_iload_n dX10_isBefore_4 rfl 5 rfl ?_
    refine x_if_lt dX10_isBefore_5 24 8 rfl rfl (fun hc => ?_) (fun hc => ?_)
    · have h := h.1 hc
      refine x_iconst dX10_isBefore_24 kc_0 25 rfl ?_
      exact x_zret (z := false) dX10_isBefore_25 ⟨rfl, h⟩
    · have h := h.2 hc
      refine x_iload_n dX10_isBefore_8 rfl 9 rfl ?_
      refine x_aload_n dX10_isBefore_9 rfl 10 rfl ?_
      refine gf10_3 dX10_isBefore_10 13 rfl hk_l0 kw1_238 ?_
      refine x_icmp_ge dX10_isBefore_13 24 16 rfl rfl (fun hc => ?_) (fun hc => ?_)
      · have h := h.1 hc
        refine x_iconst dX10_isBefore_24 kc_0 25 rfl ?_
        exact x_zret (z := false) dX10_isBefore_25 ⟨rfl, h⟩
      · have h := h.2 hc
        refine x_iload_n dX10_isBefore_16 rfl 17 rfl ?_
        refine x_aload_n dX10_isBefore_17 rfl 18 rfl ?_
        refine gf10_3 dX10_isBefore_18 21 rfl hk_l0 kw1_238 ?_
        refine x_icmp_lt dX10_isBefore_21 26 24 rfl rfl (fun hc => ?_) (fun hc => ?_)
        · have h := h.1 hc
          refine x_aload_n dX10_isBefore_26 rfl 27 rfl ?_
          refine gf10_0 dX10_isBefore_27 30 rfl hk_l0 kw1_235 ?_
          refine x_iload_n dX10_isBefore_30 rfl 31 rfl ?_
          obtain ⟨hin, h⟩ := h
          refine x_iaload dX10_isBefore_31 (ly10_0 hk_l0) hin 32 rfl ?_
          refine x_aload_n dX10_isBefore_32 rfl 33 rfl ?_
          refine gf10_1 dX10_isBefore_33 36 rfl hk_l0 kw1_236 ?_
          refine x_iload_n dX10_isBefore_36 rfl 37 rfl ?_
          obtain ⟨hin, h⟩ := h
          refine x_iaload dX10_isBefore_37 (ly10_1 hk_l0) hin 38 rfl ?_
          refine x_imul dX10_isBefore_38 39 rfl ?_
          refine x_aload_n dX10_isBefore_39 rfl 40 rfl ?_
          refine gf10_0 dX10_isBefore_40 43 rfl hk_l0 kw1_235 ?_
          refine x_iload_n dX10_isBefore_43 rfl 44 rfl ?_
          obtain ⟨hin, h⟩ := h
          refine x_iaload dX10_isBefore_44 (ly10_0 hk_l0) hin 45 rfl ?_
          refine x_aload_n dX10_isBefore_45 rfl 46 rfl ?_
          refine gf10_1 dX10_isBefore_46 49 rfl hk_l0 kw1_236 ?_
          refine x_iload_n dX10_isBefore_49 rfl 50 rfl ?_
          obtain ⟨hin, h⟩ := h
          refine x_iaload dX10_isBefore_50 (ly10_1 hk_l0) hin 51 rfl ?_
          refine x_imul dX10_isBefore_51 52 rfl ?_
          refine x_icmp_ge dX10_isBefore_52 59 55 rfl rfl (fun hc => ?_) (fun hc => ?_)
          · have h := h.1 hc
            refine x_iconst dX10_isBefore_59 kc_0 60 rfl ?_
            exact x_zret (z := false) dX10_isBefore_60 ⟨rfl, h⟩
          · have h := h.2 hc
            refine x_iconst dX10_isBefore_55 kc_1 56 rfl ?_
            refine x_goto dX10_isBefore_56 60 rfl ?_
            exact x_zret (z := true) dX10_isBefore_60 ⟨rfl, h⟩
        · have h := h.2 hc
          refine x_iconst dX10_isBefore_24 kc_0 25 rfl ?_
          exact x_zret (z := false) dX10_isBefore_25 ⟨rfl, h⟩
theorem cX10_isBefore_ {Q : Bool → Prop} {l0 : Nat} {l1 : Int32} {l2 : Int32} {M : Mem} (hk_l0 : SHk l0 = 10) (h : FX10_isBefore Q l0 l1 l2 M) : xM yX10_isBefore cX10_isBefore 3 (some .boolean) 1 [.ref l0, .int l1, .int l2] M (xQb (xP M Q)) := xM_of (by decide +kernel) (Nat.le_of_ble_eq_true rfl) (eX10_isBefore hk_l0 h)
theorem kX10_isBefore {own : String} {cc : ByteArray} {nL : Nat} {rt : Option FieldType} {d pc ix : Nat} {L : List (Nat × Value)} {st : List Value} {M : Mem} {Rt : xGt → Array Value → State → Outcome → State → Prop} {Q : Bool → Prop} {l0 : Nat} {l1 : Int32} {l2 : Int32} (hd : decode cc pc = .ok (.invokevirtual ix, 3)) (q : Nat) (hq : pc + 3 = q) (hk_l0 : SHk l0 = 10) (w1 : Cond.methodLink own ix yX10_isBefore ∈ xTs) (hr : 1 < d) (hst : (st.map fun v => v.category).sum ≤ 8) (h : FX10_isBefore Q l0 l1 l2 M) (k : ∀ (r : Bool), Q r → xX own cc nL rt d q L (.int (bI r) :: st) M Rt) : xX own cc nL rt d pc L (.int l2 :: .int l1 :: .ref l0 :: st) M Rt :=
  x_callV_b (n := 2) (As := [.int l1, .int l2]) hd q hq hk_l0 (by decide) rfl rfl w1 kw5_78 ks2_15 kw1_9 kw5_79 (by decide +kernel) rfl hr (by decide) hst _ rfl (cX10_isBefore_ hk_l0 h) (fun r N hN => by obtain ⟨rfl, hN⟩ := hN; exact k r hN)
def NX10_arrange_58 (Q : Mem → Prop) (B2 : Int32 → Mem → Prop) (l0 : Nat) (l1 : Int32) (l2 : Int32) (M : Mem) : Prop :=
  vp_in l2 7 ∧ ∀ M1 : Mem, M1 = xu M (l0 + 3) (ix l2) l1 → B2 (l1 + 1) M1
theorem nX10_arrange_58 {Q : Mem → Prop} {B2 : Int32 → Mem → Prop} {l0 : Nat} {l1 : Int32} {l2 : Int32} {M : Mem} (hB2 : ∀ (l1 : Int32) (M : Mem), B2 l1 M → xX RX10 cX10_arrange 4 none 2 2 [(0, .ref l0), (1, .int l1)] [] M (xQv Q)) (hk_l0 : SHk l0 = 10) (h : NX10_arrange_58 Q B2 l0 l1 l2 M) : xX RX10 cX10_arrange 4 none 2 58 [(0, .ref l0), (1, .int l1), (2, .int l2)] [] M (xQv Q) := by
  unfold NX10_arrange_58 at h
  refine x_aload_n dX10_arrange_58 rfl 59 rfl ?_
  refine gf10_2 dX10_arrange_59 62 rfl hk_l0 kw1_237 ?_
  refine x_iload_n dX10_arrange_62 rfl 63 rfl ?_
  refine x_iload_n dX10_arrange_63 rfl 64 rfl ?_
  obtain ⟨hin, h⟩ := h
  refine x_iastore dX10_arrange_64 (ly10_2 hk_l0) hin 65 rfl (x_mem (fun M1 hM1 => ?_))
  have h := h M1 hM1
  refine x_iinc dX10_arrange_65 rfl (congrArg (l1 + ·) kc_1) (Nat.le_of_ble_eq_true rfl) [(0, .ref l0), (1, .int (l1 + 1)), (2, .int l2)] rfl 68 rfl ?_
  refine x_goto dX10_arrange_68 2 rfl ?_
  refine x_weak [(0, .ref l0), (1, .int (l1 + 1))] [0, 1] rfl ?_
  exact hB2 _ _ h
def lbX10_arrange_14 (Q : Mem → Prop) (B2 : Int32 → Mem → Prop) (l0 : Nat) (l1 : Int32) (B14 : Int32 → Int32 → Mem → Prop) (l2 : Int32) (l3 : Int32) (M : Mem) : Prop :=
  ((l3 ≤ 0 → NX10_arrange_58 Q B2 l0 l1 l2 M) ∧ (¬ l3 ≤ 0 → vp_in (l3 - 1) 7 ∧ FX10_isBefore (fun (r2 : Bool) => ((r2 = false → NX10_arrange_58 Q B2 l0 l1 l2 M) ∧ (r2 = true → vp_in (l3 - 1) 7 ∧ vp_in l3 7 ∧ ∀ M3 : Mem, M3 = xu M (l0 + 3) (ix l3) (M (l0 + 3) (ix (l3 - 1))) → B14 (l3 - 1) (l3 + (-1)) M3))) l0 l1 (M (l0 + 3) (ix (l3 - 1))) M))
def NX10_arrange_14 (Q : Mem → Prop) (B2 : Int32 → Mem → Prop) (l0 : Nat) (l1 : Int32) (l2 : Int32) (l3 : Int32) (M : Mem) : Prop := xlp (fun (B : Int32 × Int32 × Mem → Prop) a => lbX10_arrange_14 Q B2 l0 l1 (fun l2 l3 M => B (l2, l3, M)) a.1 a.2.1 a.2.2) (l2, l3, M)
theorem nX10_arrange_14 {Q : Mem → Prop} {B2 : Int32 → Mem → Prop} {l0 : Nat} {l1 : Int32} {l2 : Int32} {l3 : Int32} {M : Mem} (hB2 : ∀ (l1 : Int32) (M : Mem), B2 l1 M → xX RX10 cX10_arrange 4 none 2 2 [(0, .ref l0), (1, .int l1)] [] M (xQv Q)) (hk_l0 : SHk l0 = 10) (h : NX10_arrange_14 Q B2 l0 l1 l2 l3 M) : xX RX10 cX10_arrange 4 none 2 14 [(0, .ref l0), (1, .int l1), (2, .int l2), (3, .int l3)] [] M (xQv Q) := by
  obtain ⟨n, h⟩ := h
  have hB14 : ∀ (n : Nat) (l2 : Int32) (l3 : Int32) (M : Mem), xlpn (fun (B : Int32 × Int32 × Mem → Prop) a => lbX10_arrange_14 Q B2 l0 l1 (fun l2 l3 M => B (l2, l3, M)) a.1 a.2.1 a.2.2) n (l2, l3, M) → xX RX10 cX10_arrange 4 none 2 14 [(0, .ref l0), (1, .int l1), (2, .int l2), (3, .int l3)] [] M (xQv Q) := by
    intro n
    induction n with
    | zero => intro l2 l3 M h; exact False.elim h
    | succ n ih =>
      intro l2 l3 M h
      have hB14 := ih
      have h : lbX10_arrange_14 Q B2 l0 l1 (fun l2 l3 M => xlpn (fun (B : Int32 × Int32 × Mem → Prop) a => lbX10_arrange_14 Q B2 l0 l1 (fun l2 l3 M => B (l2, l3, M)) a.1 a.2.1 a.2.2) n (l2, l3, M)) l2 l3 M := h
      unfold lbX10_arrange_14 at h
      refine x_iload_n dX10_arrange_14 rfl 15 rfl ?_
      refine x_if_le dX10_arrange_15 58 18 rfl rfl (fun hc => ?_) (fun hc => ?_)
      · have h := h.1 hc
        refine x_weak [(0, .ref l0), (1, .int l1), (2, .int l2)] [0, 1, 2] rfl ?_
        exact nX10_arrange_58 hB2 hk_l0 h
      · have h := h.2 hc
        refine x_aload_n dX10_arrange_18 rfl 19 rfl ?_
        refine x_iload_n dX10_arrange_19 rfl 20 rfl ?_
        refine x_aload_n dX10_arrange_20 rfl 21 rfl ?_
        refine gf10_2 dX10_arrange_21 24 rfl hk_l0 kw1_237 ?_
        refine x_iload_n dX10_arrange_24 rfl 25 rfl ?_
        refine x_iconst dX10_arrange_25 kc_1 26 rfl ?_
        refine x_isub dX10_arrange_26 27 rfl ?_
        obtain ⟨hin, h⟩ := h
        refine x_iaload dX10_arrange_27 (ly10_2 hk_l0) hin 28 rfl ?_
        refine kX10_isBefore dX10_arrange_28 31 rfl hk_l0 kw5_76 (Nat.le_of_ble_eq_true rfl) (Nat.le_of_ble_eq_true rfl) h (fun r2 h => ?_)
        refine x_if_eq_b dX10_arrange_31 58 34 rfl rfl (fun hc => ?_) (fun hc => ?_)
        · have h := h.1 hc
          refine x_weak [(0, .ref l0), (1, .int l1), (2, .int l2)] [0, 1, 2] rfl ?_
          exact nX10_arrange_58 hB2 hk_l0 h
        · have h := h.2 hc
          refine x_aload_n dX10_arrange_34 rfl 35 rfl ?_
          refine gf10_2 dX10_arrange_35 38 rfl hk_l0 kw1_237 ?_
          refine x_iload_n dX10_arrange_38 rfl 39 rfl ?_
          refine x_aload_n dX10_arrange_39 rfl 40 rfl ?_
          refine gf10_2 dX10_arrange_40 43 rfl hk_l0 kw1_237 ?_
          refine x_iload_n dX10_arrange_43 rfl 44 rfl ?_
          refine x_iconst dX10_arrange_44 kc_1 45 rfl ?_
          refine x_isub dX10_arrange_45 46 rfl ?_
          obtain ⟨hin, h⟩ := h
          refine x_iaload dX10_arrange_46 (ly10_2 hk_l0) hin 47 rfl ?_
          obtain ⟨hin, h⟩ := h
          refine x_iastore dX10_arrange_47 (ly10_2 hk_l0) hin 48 rfl (x_mem (fun M3 hM3 => ?_))
          have h := h M3 hM3
          refine x_iload_n dX10_arrange_48 rfl 49 rfl ?_
          refine x_iconst dX10_arrange_49 kc_1 50 rfl ?_
          refine x_isub dX10_arrange_50 51 rfl ?_
          refine x_istore_n dX10_arrange_51 (Nat.le_of_ble_eq_true rfl) [(0, .ref l0), (1, .int l1), (2, .int (l3 - 1)), (3, .int l3)] rfl 52 rfl ?_
          refine x_iinc dX10_arrange_52 rfl (congrArg (l3 + ·) kc_m1) (Nat.le_of_ble_eq_true rfl) [(0, .ref l0), (1, .int l1), (2, .int (l3 - 1)), (3, .int (l3 + (-1)))] rfl 55 rfl ?_
          refine x_goto dX10_arrange_55 14 rfl ?_
          exact hB14 _ _ _ h
  exact hB14 n l2 l3 M h
def lbX10_arrange_2 (Q : Mem → Prop) (l0 : Nat) (B2 : Int32 → Mem → Prop) (l1 : Int32) (M : Mem) : Prop :=
  (((M l0 3) ≤ l1 → Q M) ∧ (¬ (M l0 3) ≤ l1 → NX10_arrange_14 Q B2 l0 l1 l1 l1 M))
def NX10_arrange_2 (Q : Mem → Prop) (l0 : Nat) (l1 : Int32) (M : Mem) : Prop := xlp (fun (B : Int32 × Mem → Prop) a => lbX10_arrange_2 Q l0 (fun l1 M => B (l1, M)) a.1 a.2) (l1, M)
theorem nX10_arrange_2 {Q : Mem → Prop} {l0 : Nat} {l1 : Int32} {M : Mem} (hk_l0 : SHk l0 = 10) (h : NX10_arrange_2 Q l0 l1 M) : xX RX10 cX10_arrange 4 none 2 2 [(0, .ref l0), (1, .int l1)] [] M (xQv Q) := by
  obtain ⟨n, h⟩ := h
  have hB2 : ∀ (n : Nat) (l1 : Int32) (M : Mem), xlpn (fun (B : Int32 × Mem → Prop) a => lbX10_arrange_2 Q l0 (fun l1 M => B (l1, M)) a.1 a.2) n (l1, M) → xX RX10 cX10_arrange 4 none 2 2 [(0, .ref l0), (1, .int l1)] [] M (xQv Q) := by
    intro n
    induction n with
    | zero => intro l1 M h; exact False.elim h
    | succ n ih =>
      intro l1 M h
      have hB2 := ih
      have h : lbX10_arrange_2 Q l0 (fun l1 M => xlpn (fun (B : Int32 × Mem → Prop) a => lbX10_arrange_2 Q l0 (fun l1 M => B (l1, M)) a.1 a.2) n (l1, M)) l1 M := h
      unfold lbX10_arrange_2 at h
      refine x_iload_n dX10_arrange_2 rfl 3 rfl ?_
      refine x_aload_n dX10_arrange_3 rfl 4 rfl ?_
      refine gf10_3 dX10_arrange_4 7 rfl hk_l0 kw1_238 ?_
      refine x_icmp_ge dX10_arrange_7 71 10 rfl rfl (fun hc => ?_) (fun hc => ?_)
      · have h := h.1 hc
        exact x_vret dX10_arrange_71 h
      · have h := h.2 hc
        refine x_iload_n dX10_arrange_10 rfl 11 rfl ?_
        refine x_istore_n dX10_arrange_11 (Nat.le_of_ble_eq_true rfl) [(0, .ref l0), (1, .int l1), (2, .int l1)] rfl 12 rfl ?_
        refine x_iload_n dX10_arrange_12 rfl 13 rfl ?_
        refine x_istore_n dX10_arrange_13 (Nat.le_of_ble_eq_true rfl) [(0, .ref l0), (1, .int l1), (2, .int l1), (3, .int l1)] rfl 14 rfl ?_
        exact nX10_arrange_14 hB2 hk_l0 h
  exact hB2 n l1 M h
def FX10_arrange (Q : Mem → Prop) (l0 : Nat) (M : Mem) : Prop :=
  NX10_arrange_2 Q l0 0 M
theorem eX10_arrange {Q : Mem → Prop} {l0 : Nat} {M : Mem} (hk_l0 : SHk l0 = 10) (h : FX10_arrange Q l0 M) : xX RX10 cX10_arrange 4 none 2 0 [(0, .ref l0)] [] M (xQv Q) := by
  unfold FX10_arrange at h
  refine x_iconst dX10_arrange_0 kc_0 1 rfl ?_
  refine x_istore_n dX10_arrange_1 (Nat.le_of_ble_eq_true rfl) [(0, .ref l0), (1, .int 0)] rfl 2 rfl ?_
  exact nX10_arrange_2 hk_l0 h
theorem cX10_arrange_ {Q : Mem → Prop} {l0 : Nat} {M : Mem} (hk_l0 : SHk l0 = 10) (h : FX10_arrange Q l0 M) : xM yX10_arrange cX10_arrange 4 none 2 [.ref l0] M (xQv Q) := xM_of (by decide +kernel) (Nat.le_of_ble_eq_true rfl) (eX10_arrange hk_l0 h)
theorem kX10_arrange {own : String} {cc : ByteArray} {nL : Nat} {rt : Option FieldType} {d pc ix : Nat} {L : List (Nat × Value)} {st : List Value} {M : Mem} {Rt : xGt → Array Value → State → Outcome → State → Prop} {Q : Mem → Prop} {l0 : Nat} (hd : decode cc pc = .ok (.invokevirtual ix, 3)) (q : Nat) (hq : pc + 3 = q) (hk_l0 : SHk l0 = 10) (w1 : Cond.methodLink own ix yX10_arrange ∈ xTs) (hr : 2 < d) (hst : (st.map fun v => v.category).sum ≤ 8) (h : FX10_arrange Q l0 M) (k : ∀ (N : Mem), Q N → xX own cc nL rt d q L st N Rt) : xX own cc nL rt d pc L (.ref l0 :: st) M Rt :=
  x_callV_v (n := 0) (As := []) hd q hq hk_l0 (by decide) rfl rfl w1 kw5_74 ks2_14 kw1_9 kw5_75 (by decide +kernel) rfl hr (by decide) hst _ rfl (cX10_arrange_ hk_l0 h) k
def lbX10_leastSum_10 (Q : Int32 → Mem → Prop) (l0 : Nat) (M : Mem) (B10 : Int32 → Int32 → Int32 → Prop) (l1 : Int32) (l2 : Int32) (l3 : Int32) : Prop :=
  (((M l0 3) ≤ l3 → Q l2 M) ∧ (¬ (M l0 3) ≤ l3 → vp_in l3 7 ∧ (((M (l0 + 3) (ix l3)) < 0 → B10 l1 l2 (l3 + 1)) ∧ (¬ (M (l0 + 3) (ix l3)) < 0 → (((M l0 3) ≤ (M (l0 + 3) (ix l3)) → B10 l1 l2 (l3 + 1)) ∧ (¬ (M l0 3) ≤ (M (l0 + 3) (ix l3)) → vp_in (M (l0 + 3) (ix l3)) 7 ∧ ∀ y1 : Int32, y1 = l1 + (M (l0 + 1) (ix (M (l0 + 3) (ix l3)))) → vp_in (M (l0 + 3) (ix l3)) 7 ∧ ∀ y2 : Int32, y2 = l2 + ((M (l0 + 2) (ix (M (l0 + 3) (ix l3)))) * y1) → B10 y1 y2 (l3 + 1)))))))
def NX10_leastSum_10 (Q : Int32 → Mem → Prop) (l0 : Nat) (l1 : Int32) (l2 : Int32) (l3 : Int32) (M : Mem) : Prop := xlp (fun (B : Int32 × Int32 × Int32 → Prop) a => lbX10_leastSum_10 Q l0 M (fun l1 l2 l3 => B (l1, l2, l3)) a.1 a.2.1 a.2.2) (l1, l2, l3)
theorem nX10_leastSum_10 {Q : Int32 → Mem → Prop} {l0 : Nat} {l1 : Int32} {l2 : Int32} {l3 : Int32} {M : Mem} (hk_l0 : SHk l0 = 10) (h : NX10_leastSum_10 Q l0 l1 l2 l3 M) : xX RX10 cX10_leastSum 5 (some .int) 3 10 [(0, .ref l0), (1, .int l1), (2, .int l2), (3, .int l3)] [] M (xQi Q) := by
  obtain ⟨n, h⟩ := h
  have hB10 : ∀ (n : Nat) (l1 : Int32) (l2 : Int32) (l3 : Int32), xlpn (fun (B : Int32 × Int32 × Int32 → Prop) a => lbX10_leastSum_10 Q l0 M (fun l1 l2 l3 => B (l1, l2, l3)) a.1 a.2.1 a.2.2) n (l1, l2, l3) → xX RX10 cX10_leastSum 5 (some .int) 3 10 [(0, .ref l0), (1, .int l1), (2, .int l2), (3, .int l3)] [] M (xQi Q) := by
    intro n
    induction n with
    | zero => intro l1 l2 l3 h; exact False.elim h
    | succ n ih =>
      intro l1 l2 l3 h
      have hB10 := ih
      have h : lbX10_leastSum_10 Q l0 M (fun l1 l2 l3 => xlpn (fun (B : Int32 × Int32 × Int32 → Prop) a => lbX10_leastSum_10 Q l0 M (fun l1 l2 l3 => B (l1, l2, l3)) a.1 a.2.1 a.2.2) n (l1, l2, l3)) l1 l2 l3 := h
      unfold lbX10_leastSum_10 at h
      refine x_iload_n dX10_leastSum_10 rfl 11 rfl ?_
      refine x_aload_n dX10_leastSum_11 rfl 12 rfl ?_
      refine gf10_3 dX10_leastSum_12 15 rfl hk_l0 kw1_238 ?_
      refine x_icmp_ge dX10_leastSum_15 68 18 rfl rfl (fun hc => ?_) (fun hc => ?_)
      · have h := h.1 hc
        refine x_iload_n dX10_leastSum_68 rfl 69 rfl ?_
        exact x_iret dX10_leastSum_69 h
      · have h := h.2 hc
        refine x_aload_n dX10_leastSum_18 rfl 19 rfl ?_
        refine gf10_2 dX10_leastSum_19 22 rfl hk_l0 kw1_237 ?_
        refine x_iload_n dX10_leastSum_22 rfl 23 rfl ?_
        obtain ⟨hin, h⟩ := h
        refine x_iaload dX10_leastSum_23 (ly10_2 hk_l0) hin 24 rfl ?_
        refine x_istore dX10_leastSum_24 (Nat.le_of_ble_eq_true rfl) [(0, .ref l0), (1, .int l1), (2, .int l2), (3, .int l3), (4, .int (M (l0 + 3) (ix l3)))] rfl 26 rfl ?_
        refine x_iload dX10_leastSum_26 rfl 28 rfl ?_
        refine x_if_lt dX10_leastSum_28 62 31 rfl rfl (fun hc => ?_) (fun hc => ?_)
        · have h := h.1 hc
          refine x_iinc dX10_leastSum_62 rfl (congrArg (l3 + ·) kc_1) (Nat.le_of_ble_eq_true rfl) [(0, .ref l0), (1, .int l1), (2, .int l2), (3, .int (l3 + 1)), (4, .int (M (l0 + 3) (ix l3)))] rfl 65 rfl ?_
          refine x_goto dX10_leastSum_65 10 rfl ?_
          refine x_weak [(0, .ref l0), (1, .int l1), (2, .int l2), (3, .int (l3 + 1))] [0, 1, 2, 3] rfl ?_
          exact hB10 _ _ _ h
        · have h := h.2 hc
          refine x_iload dX10_leastSum_31 rfl 33 rfl ?_
          refine x_aload_n dX10_leastSum_33 rfl 34 rfl ?_
          refine gf10_3 dX10_leastSum_34 37 rfl hk_l0 kw1_238 ?_
          refine x_icmp_ge dX10_leastSum_37 62 40 rfl rfl (fun hc => ?_) (fun hc => ?_)
          · have h := h.1 hc
            refine x_iinc dX10_leastSum_62 rfl (congrArg (l3 + ·) kc_1) (Nat.le_of_ble_eq_true rfl) [(0, .ref l0), (1, .int l1), (2, .int l2), (3, .int (l3 + 1)), (4, .int (M (l0 + 3) (ix l3)))] rfl 65 rfl ?_
            refine x_goto dX10_leastSum_65 10 rfl ?_
            refine x_weak [(0, .ref l0), (1, .int l1), (2, .int l2), (3, .int (l3 + 1))] [0, 1, 2, 3] rfl ?_
            exact hB10 _ _ _ h
          · have h := h.2 hc
            refine x_iload_n dX10_leastSum_40 rfl 41 rfl ?_
            refine x_aload_n dX10_leastSum_41 rfl 42 rfl ?_
            refine gf10_0 dX10_leastSum_42 45 rfl hk_l0 kw1_235 ?_
            refine x_iload dX10_leastSum_45 rfl 47 rfl ?_
            obtain ⟨hin, h⟩ := h
            refine x_iaload dX10_leastSum_47 (ly10_0 hk_l0) hin 48 rfl ?_
            refine x_iadd dX10_leastSum_48 49 rfl ?_
            refine x_top (fun y1 hy1 => ?_)
            have h := h y1 hy1
            refine x_istore_n dX10_leastSum_49 (Nat.le_of_ble_eq_true rfl) [(0, .ref l0), (1, .int y1), (2, .int l2), (3, .int l3), (4, .int (M (l0 + 3) (ix l3)))] rfl 50 rfl ?_
            refine x_iload_n dX10_leastSum_50 rfl 51 rfl ?_
            refine x_aload_n dX10_leastSum_51 rfl 52 rfl ?_
            refine gf10_1 dX10_leastSum_52 55 rfl hk_l0 kw1_236 ?_
            refine x_iload dX10_leastSum_55 rfl 57 rfl ?_
            obtain ⟨hin, h⟩ := h
            refine x_iaload dX10_leastSum_57 (ly10_1 hk_l0) hin 58 rfl ?_
            refine x_iload_n dX10_leastSum_58 rfl 59 rfl ?_
            refine x_imul dX10_leastSum_59 60 rfl ?_
            refine x_iadd dX10_leastSum_60 61 rfl ?_
            refine x_top (fun y2 hy2 => ?_)
            have h := h y2 hy2
            refine x_istore_n dX10_leastSum_61 (Nat.le_of_ble_eq_true rfl) [(0, .ref l0), (1, .int y1), (2, .int y2), (3, .int l3), (4, .int (M (l0 + 3) (ix l3)))] rfl 62 rfl ?_
            refine x_iinc dX10_leastSum_62 rfl (congrArg (l3 + ·) kc_1) (Nat.le_of_ble_eq_true rfl) [(0, .ref l0), (1, .int y1), (2, .int y2), (3, .int (l3 + 1)), (4, .int (M (l0 + 3) (ix l3)))] rfl 65 rfl ?_
            refine x_goto dX10_leastSum_65 10 rfl ?_
            refine x_weak [(0, .ref l0), (1, .int y1), (2, .int y2), (3, .int (l3 + 1))] [0, 1, 2, 3] rfl ?_
            exact hB10 _ _ _ h
  exact hB10 n l1 l2 l3 h
def FX10_leastSum (Q : Int32 → Mem → Prop) (l0 : Nat) (M : Mem) : Prop :=
  FX10_arrange (fun (M3 : Mem) => NX10_leastSum_10 Q l0 0 0 0 M3) l0 M
theorem eX10_leastSum {Q : Int32 → Mem → Prop} {l0 : Nat} {M : Mem} (hk_l0 : SHk l0 = 10) (h : FX10_leastSum Q l0 M) : xX RX10 cX10_leastSum 5 (some .int) 3 0 [(0, .ref l0)] [] M (xQi Q) := by
  unfold FX10_leastSum at h
  refine x_aload_n dX10_leastSum_0 rfl 1 rfl ?_
  refine kX10_arrange dX10_leastSum_1 4 rfl hk_l0 kw5_72 (Nat.le_of_ble_eq_true rfl) (Nat.le_of_ble_eq_true rfl) h (fun M3 h => ?_)
  refine x_iconst dX10_leastSum_4 kc_0 5 rfl ?_
  refine x_istore_n dX10_leastSum_5 (Nat.le_of_ble_eq_true rfl) [(0, .ref l0), (1, .int 0)] rfl 6 rfl ?_
  refine x_iconst dX10_leastSum_6 kc_0 7 rfl ?_
  refine x_istore_n dX10_leastSum_7 (Nat.le_of_ble_eq_true rfl) [(0, .ref l0), (1, .int 0), (2, .int 0)] rfl 8 rfl ?_
  refine x_iconst dX10_leastSum_8 kc_0 9 rfl ?_
  refine x_istore_n dX10_leastSum_9 (Nat.le_of_ble_eq_true rfl) [(0, .ref l0), (1, .int 0), (2, .int 0), (3, .int 0)] rfl 10 rfl ?_
  exact nX10_leastSum_10 hk_l0 h
theorem cX10_leastSum_ {Q : Int32 → Mem → Prop} {l0 : Nat} {M : Mem} (hk_l0 : SHk l0 = 10) (h : FX10_leastSum Q l0 M) : xM yX10_leastSum cX10_leastSum 5 (some .int) 3 [.ref l0] M (xQi Q) := xM_of (by decide +kernel) (Nat.le_of_ble_eq_true rfl) (eX10_leastSum hk_l0 h)
theorem kX10_leastSum {own : String} {cc : ByteArray} {nL : Nat} {rt : Option FieldType} {d pc ix : Nat} {L : List (Nat × Value)} {st : List Value} {M : Mem} {Rt : xGt → Array Value → State → Outcome → State → Prop} {Q : Int32 → Mem → Prop} {l0 : Nat} (hd : decode cc pc = .ok (.invokevirtual ix, 3)) (q : Nat) (hq : pc + 3 = q) (hk_l0 : SHk l0 = 10) (w1 : Cond.methodLink own ix yX10_leastSum ∈ xTs) (hr : 3 < d) (hst : (st.map fun v => v.category).sum ≤ 8) (h : FX10_leastSum Q l0 M) (k : ∀ (r : Int32) (N : Mem), Q r N → xX own cc nL rt d q L (.int r :: st) N Rt) : xX own cc nL rt d pc L (.ref l0 :: st) M Rt :=
  x_callV_i (n := 0) (As := []) hd q hq hk_l0 (by decide) rfl rfl w1 kw5_69 kw5_70 kw1_9 kw5_71 (by decide +kernel) rfl hr (by decide) hst _ rfl (cX10_leastSum_ hk_l0 h) k
def FX10_inOrder (Q : Int32 → Mem → Prop) (l0 : Nat) (l1 : Int32) (M : Mem) : Prop :=
  FX10_arrange (fun (M1 : Mem) => ((l1 < 0 → Q (-1) M1) ∧ (¬ l1 < 0 → (((M1 l0 3) ≤ l1 → Q (-1) M1) ∧ (¬ (M1 l0 3) ≤ l1 → vp_in l1 7 ∧ Q (M1 (l0 + 3) (ix l1)) M1))))) l0 M
theorem eX10_inOrder {Q : Int32 → Mem → Prop} {l0 : Nat} {l1 : Int32} {M : Mem} (hk_l0 : SHk l0 = 10) (h : FX10_inOrder Q l0 l1 M) : xX RX10 cX10_inOrder 2 (some .int) 3 0 [(0, .ref l0), (1, .int l1)] [] M (xQi Q) := by
  unfold FX10_inOrder at h
  refine x_aload_n dX10_inOrder_0 rfl 1 rfl ?_
  refine kX10_arrange dX10_inOrder_1 4 rfl hk_l0 kw5_72 (Nat.le_of_ble_eq_true rfl) (Nat.le_of_ble_eq_true rfl) h (fun M1 h => ?_)
  refine x_iload_n dX10_inOrder_4 rfl 5 rfl ?_
  refine x_if_lt dX10_inOrder_5 25 8 rfl rfl (fun hc => ?_) (fun hc => ?_)
  · have h := h.1 hc
    refine x_iconst dX10_inOrder_25 kc_m1 26 rfl ?_
    exact x_iret dX10_inOrder_26 h
  · have h := h.2 hc
    refine x_iload_n dX10_inOrder_8 rfl 9 rfl ?_
    refine x_aload_n dX10_inOrder_9 rfl 10 rfl ?_
    refine gf10_3 dX10_inOrder_10 13 rfl hk_l0 kw1_238 ?_
    refine x_icmp_ge dX10_inOrder_13 25 16 rfl rfl (fun hc => ?_) (fun hc => ?_)
    · have h := h.1 hc
      refine x_iconst dX10_inOrder_25 kc_m1 26 rfl ?_
      exact x_iret dX10_inOrder_26 h
    · have h := h.2 hc
      refine x_aload_n dX10_inOrder_16 rfl 17 rfl ?_
      refine gf10_2 dX10_inOrder_17 20 rfl hk_l0 kw1_237 ?_
      refine x_iload_n dX10_inOrder_20 rfl 21 rfl ?_
      obtain ⟨hin, h⟩ := h
      refine x_iaload dX10_inOrder_21 (ly10_2 hk_l0) hin 22 rfl ?_
      refine x_goto dX10_inOrder_22 26 rfl ?_
      exact x_iret dX10_inOrder_26 h
theorem cX10_inOrder_ {Q : Int32 → Mem → Prop} {l0 : Nat} {l1 : Int32} {M : Mem} (hk_l0 : SHk l0 = 10) (h : FX10_inOrder Q l0 l1 M) : xM yX10_inOrder cX10_inOrder 2 (some .int) 3 [.ref l0, .int l1] M (xQi Q) := xM_of (by decide +kernel) (Nat.le_of_ble_eq_true rfl) (eX10_inOrder hk_l0 h)
theorem kX10_inOrder {own : String} {cc : ByteArray} {nL : Nat} {rt : Option FieldType} {d pc ix : Nat} {L : List (Nat × Value)} {st : List Value} {M : Mem} {Rt : xGt → Array Value → State → Outcome → State → Prop} {Q : Int32 → Mem → Prop} {l0 : Nat} {l1 : Int32} (hd : decode cc pc = .ok (.invokevirtual ix, 3)) (q : Nat) (hq : pc + 3 = q) (hk_l0 : SHk l0 = 10) (w1 : Cond.methodLink own ix yX10_inOrder ∈ xTs) (hr : 3 < d) (hst : (st.map fun v => v.category).sum ≤ 8) (h : FX10_inOrder Q l0 l1 M) (k : ∀ (r : Int32) (N : Mem), Q r N → xX own cc nL rt d q L (.int r :: st) N Rt) : xX own cc nL rt d pc L (.int l1 :: .ref l0 :: st) M Rt :=
  x_callV_i (n := 1) (As := [.int l1]) hd q hq hk_l0 (by decide) rfl rfl w1 kw5_81 kw5_82 kw1_9 kw5_83 (by decide +kernel) rfl hr (by decide) hst _ rfl (cX10_inOrder_ hk_l0 h) k
def FX11_state (Q : Int32 → Mem → Prop) (l0 : Nat) (l1 : Int32) (M : Mem) : Prop :=
  ∀ y1 : Int32, y1 = M ((l0 + 1) + 1) 17 → FX3_forget (fun (M2 : Mem) => ∀ M3 : Mem, M3 = xu M2 ((l0 + 1) + 1) 17 l1 → Q y1 M3) (l0 + 77) M
theorem eX11_state {Q : Int32 → Mem → Prop} {l0 : Nat} {l1 : Int32} {M : Mem} (hk_l0 : SHk l0 = 11) (h : FX11_state Q l0 l1 M) : xX RX11 cX11_state 3 (some .int) 2 0 [(0, .ref l0), (1, .int l1)] [] M (xQi Q) := by
  unfold FX11_state at h
  refine x_aload_n dX11_state_0 rfl 1 rfl ?_
  refine gf11_0 dX11_state_1 4 rfl hk_l0 kw2_148 ?_
  refine gf0_0 dX11_state_4 7 rfl (ly11_0 hk_l0).1 kw2_10 ?_
  refine gf9_17 dX11_state_7 10 rfl (ly0_0 (ly11_0 hk_l0).1).1 kw1_93 ?_
  refine x_top (fun y1 hy1 => ?_)
  have h := h y1 hy1
  refine x_istore_n dX11_state_10 (Nat.le_of_ble_eq_true rfl) [(0, .ref l0), (1, .int l1), (2, .int y1)] rfl 11 rfl ?_
  refine x_aload_n dX11_state_11 rfl 12 rfl ?_
  refine gf11_3 dX11_state_12 15 rfl hk_l0 kw2_151 ?_
  refine kX3_forget dX11_state_15 18 rfl (ly11_3 hk_l0).1 kw2_181 (Nat.le_of_ble_eq_true rfl) (Nat.le_of_ble_eq_true rfl) h (fun M2 h => ?_)
  refine x_aload_n dX11_state_18 rfl 19 rfl ?_
  refine gf11_0 dX11_state_19 22 rfl hk_l0 kw2_148 ?_
  refine gf0_0 dX11_state_22 25 rfl (ly11_0 hk_l0).1 kw2_10 ?_
  refine x_iload_n dX11_state_25 rfl 26 rfl ?_
  refine pf9_17 dX11_state_26 29 rfl (ly0_0 (ly11_0 hk_l0).1).1 kw1_93 (x_mem (fun M3 hM3 => ?_))
  have h := h M3 hM3
  refine x_iload_n dX11_state_29 rfl 30 rfl ?_
  exact x_iret dX11_state_30 h
theorem cX11_state_ {Q : Int32 → Mem → Prop} {l0 : Nat} {l1 : Int32} {M : Mem} (hk_l0 : SHk l0 = 11) (h : FX11_state Q l0 l1 M) : xM yX11_state cX11_state 3 (some .int) 2 [.ref l0, .int l1] M (xQi Q) := xM_of (by decide +kernel) (Nat.le_of_ble_eq_true rfl) (eX11_state hk_l0 h)
theorem kX11_state {own : String} {cc : ByteArray} {nL : Nat} {rt : Option FieldType} {d pc ix : Nat} {L : List (Nat × Value)} {st : List Value} {M : Mem} {Rt : xGt → Array Value → State → Outcome → State → Prop} {Q : Int32 → Mem → Prop} {l0 : Nat} {l1 : Int32} (hd : decode cc pc = .ok (.invokevirtual ix, 3)) (q : Nat) (hq : pc + 3 = q) (hk_l0 : SHk l0 = 11) (w1 : Cond.methodLink own ix yX11_state ∈ xTs) (hr : 2 < d) (hst : (st.map fun v => v.category).sum ≤ 8) (h : FX11_state Q l0 l1 M) (k : ∀ (r : Int32) (N : Mem), Q r N → xX own cc nL rt d q L (.int r :: st) N Rt) : xX own cc nL rt d pc L (.int l1 :: .ref l0 :: st) M Rt :=
  x_callV_i (n := 1) (As := [.int l1]) hd q hq hk_l0 (by decide) rfl rfl w1 kw2_178 kw2_179 kw1_1 kw2_180 (by decide +kernel) rfl hr (by decide) hst _ rfl (cX11_state_ hk_l0 h) k
def FX11_pillar (Q : Int32 → Mem → Prop) (l0 : Nat) (l1 : Int32) (M : Mem) : Prop :=
  ((l1 < 1 → Q (-1) M) ∧ (¬ l1 < 1 → ((99 < l1 → Q (-1) M) ∧ (¬ 99 < l1 → (((M ((l0 + 1) + 1) 10) < 10 → FX3_forget (fun (M1 : Mem) => FX9_addPillar (fun (r3 : Int32) (M2 : Mem) => Q r3 M2) ((l0 + 1) + 1) l1 M1) (l0 + 77) M) ∧ (¬ (M ((l0 + 1) + 1) 10) < 10 → Q (-1) M))))))
theorem eX11_pillar {Q : Int32 → Mem → Prop} {l0 : Nat} {l1 : Int32} {M : Mem} (hk_l0 : SHk l0 = 11) (h : FX11_pillar Q l0 l1 M) : xX RX11 cX11_pillar 2 (some .int) 5 0 [(0, .ref l0), (1, .int l1)] [] M (xQi Q) := by
  unfold FX11_pillar at h
  refine x_iload_n dX11_pillar_0 rfl 1 rfl ?_
  refine x_iconst dX11_pillar_1 kc_1 2 rfl ?_
  refine x_icmp_lt dX11_pillar_2 26 5 rfl rfl (fun hc => ?_) (fun hc => ?_)
  · have h := h.1 hc
    refine x_iconst dX11_pillar_26 kc_m1 27 rfl ?_
    exact x_iret dX11_pillar_27 h
  · have h := h.2 hc
    refine x_iload_n dX11_pillar_5 rfl 6 rfl ?_
    refine x_bipush dX11_pillar_6 kb_99 8 rfl ?_
    refine x_icmp_gt dX11_pillar_8 26 11 rfl rfl (fun hc => ?_) (fun hc => ?_)
    · have h := h.1 hc
      refine x_iconst dX11_pillar_26 kc_m1 27 rfl ?_
      exact x_iret dX11_pillar_27 h
    · have h := h.2 hc
      refine x_aload_n dX11_pillar_11 rfl 12 rfl ?_
      refine gf11_0 dX11_pillar_12 15 rfl hk_l0 kw2_148 ?_
      refine gf0_0 dX11_pillar_15 18 rfl (ly11_0 hk_l0).1 kw2_10 ?_
      refine gf9_10 dX11_pillar_18 21 rfl (ly0_0 (ly11_0 hk_l0).1).1 kw1_69 ?_
      refine x_bipush dX11_pillar_21 kb_10 23 rfl ?_
      refine x_icmp_lt dX11_pillar_23 28 26 rfl rfl (fun hc => ?_) (fun hc => ?_)
      · have h := h.1 hc
        refine x_aload_n dX11_pillar_28 rfl 29 rfl ?_
        refine gf11_3 dX11_pillar_29 32 rfl hk_l0 kw2_151 ?_
        refine kX3_forget dX11_pillar_32 35 rfl (ly11_3 hk_l0).1 kw2_181 (Nat.le_of_ble_eq_true rfl) (Nat.le_of_ble_eq_true rfl) h (fun M1 h => ?_)
        refine x_aload_n dX11_pillar_35 rfl 36 rfl ?_
        refine gf11_0 dX11_pillar_36 39 rfl hk_l0 kw2_148 ?_
        refine gf0_0 dX11_pillar_39 42 rfl (ly11_0 hk_l0).1 kw2_10 ?_
        refine x_iload_n dX11_pillar_42 rfl 43 rfl ?_
        refine kX9_addPillar dX11_pillar_43 46 rfl (ly0_0 (ly11_0 hk_l0).1).1 kw2_189 (Nat.le_of_ble_eq_true rfl) (Nat.le_of_ble_eq_true rfl) h (fun r3 M2 h => ?_)
        exact x_iret dX11_pillar_46 h
      · have h := h.2 hc
        refine x_iconst dX11_pillar_26 kc_m1 27 rfl ?_
        exact x_iret dX11_pillar_27 h
theorem cX11_pillar_ {Q : Int32 → Mem → Prop} {l0 : Nat} {l1 : Int32} {M : Mem} (hk_l0 : SHk l0 = 11) (h : FX11_pillar Q l0 l1 M) : xM yX11_pillar cX11_pillar 2 (some .int) 5 [.ref l0, .int l1] M (xQi Q) := xM_of (by decide +kernel) (Nat.le_of_ble_eq_true rfl) (eX11_pillar hk_l0 h)
theorem kX11_pillar {own : String} {cc : ByteArray} {nL : Nat} {rt : Option FieldType} {d pc ix : Nat} {L : List (Nat × Value)} {st : List Value} {M : Mem} {Rt : xGt → Array Value → State → Outcome → State → Prop} {Q : Int32 → Mem → Prop} {l0 : Nat} {l1 : Int32} (hd : decode cc pc = .ok (.invokevirtual ix, 3)) (q : Nat) (hq : pc + 3 = q) (hk_l0 : SHk l0 = 11) (w1 : Cond.methodLink own ix yX11_pillar ∈ xTs) (hr : 5 < d) (hst : (st.map fun v => v.category).sum ≤ 8) (h : FX11_pillar Q l0 l1 M) (k : ∀ (r : Int32) (N : Mem), Q r N → xX own cc nL rt d q L (.int r :: st) N Rt) : xX own cc nL rt d pc L (.int l1 :: .ref l0 :: st) M Rt :=
  x_callV_i (n := 1) (As := [.int l1]) hd q hq hk_l0 (by decide) rfl rfl w1 kw2_186 kw2_187 kw1_1 kw2_188 (by decide +kernel) rfl hr (by decide) hst _ rfl (cX11_pillar_ hk_l0 h) k
def NX11_saint_36 (Q : Int32 → Mem → Prop) (l0 : Nat) (l1 : Int32) (l2 : Int32) (l3 : Int32) (s0 : Int32) (M : Mem) : Prop :=
  ((s0 = 0 → Q (-1) M) ∧ (¬ s0 = 0 → (((M ((l0 + 1) + 1) 11) < 14 → FX3_forget (fun (M1 : Mem) => FX9_addSaint (fun (r3 : Int32) (M2 : Mem) => Q r3 M2) ((l0 + 1) + 1) l1 l2 l3 M1) (l0 + 77) M) ∧ (¬ (M ((l0 + 1) + 1) 11) < 14 → Q (-1) M))))
theorem nX11_saint_36 {Q : Int32 → Mem → Prop} {l0 : Nat} {l1 : Int32} {l2 : Int32} {l3 : Int32} {s0 : Int32} {M : Mem} (hk_l0 : SHk l0 = 11) (h : NX11_saint_36 Q l0 l1 l2 l3 s0 M) : xX RX11 cX11_saint 5 (some .int) 5 36 [(0, .ref l0), (1, .int l1), (2, .int l2), (3, .int l3)] [.int s0] M (xQi Q) := by
  unfold NX11_saint_36 at h
  refine x_istore dX11_saint_36 (Nat.le_of_ble_eq_true rfl) [(0, .ref l0), (1, .int l1), (2, .int l2), (3, .int l3), (4, .int s0)] rfl 38 rfl ?_
  refine x_iload dX11_saint_38 rfl 40 rfl ?_
  refine x_if_eq dX11_saint_40 58 43 rfl rfl (fun hc => ?_) (fun hc => ?_)
  · have h := h.1 hc
    refine x_iconst dX11_saint_58 kc_m1 59 rfl ?_
    exact x_iret dX11_saint_59 h
  · have h := h.2 hc
    refine x_aload_n dX11_saint_43 rfl 44 rfl ?_
    refine gf11_0 dX11_saint_44 47 rfl hk_l0 kw2_148 ?_
    refine gf0_0 dX11_saint_47 50 rfl (ly11_0 hk_l0).1 kw2_10 ?_
    refine gf9_11 dX11_saint_50 53 rfl (ly0_0 (ly11_0 hk_l0).1).1 kw1_74 ?_
    refine x_bipush dX11_saint_53 kb_14 55 rfl ?_
    refine x_icmp_lt dX11_saint_55 60 58 rfl rfl (fun hc => ?_) (fun hc => ?_)
    · have h := h.1 hc
      refine x_aload_n dX11_saint_60 rfl 61 rfl ?_
      refine gf11_3 dX11_saint_61 64 rfl hk_l0 kw2_151 ?_
      refine kX3_forget dX11_saint_64 67 rfl (ly11_3 hk_l0).1 kw2_181 (Nat.le_of_ble_eq_true rfl) (Nat.le_of_ble_eq_true rfl) h (fun M1 h => ?_)
      refine x_aload_n dX11_saint_67 rfl 68 rfl ?_
      refine gf11_0 dX11_saint_68 71 rfl hk_l0 kw2_148 ?_
      refine gf0_0 dX11_saint_71 74 rfl (ly11_0 hk_l0).1 kw2_10 ?_
      refine x_iload_n dX11_saint_74 rfl 75 rfl ?_
      refine x_iload_n dX11_saint_75 rfl 76 rfl ?_
      refine x_iload_n dX11_saint_76 rfl 77 rfl ?_
      refine kX9_addSaint dX11_saint_77 80 rfl (ly0_0 (ly11_0 hk_l0).1).1 kw2_216 (Nat.le_of_ble_eq_true rfl) (Nat.le_of_ble_eq_true rfl) h (fun r3 M2 h => ?_)
      exact x_iret dX11_saint_80 h
    · have h := h.2 hc
      refine x_iconst dX11_saint_58 kc_m1 59 rfl ?_
      exact x_iret dX11_saint_59 h
def NX11_saint_35 (Q : Int32 → Mem → Prop) (l0 : Nat) (l1 : Int32) (l2 : Int32) (l3 : Int32) (M : Mem) : Prop :=
  NX11_saint_36 Q l0 l1 l2 l3 0 M
theorem nX11_saint_35 {Q : Int32 → Mem → Prop} {l0 : Nat} {l1 : Int32} {l2 : Int32} {l3 : Int32} {M : Mem} (hk_l0 : SHk l0 = 11) (h : NX11_saint_35 Q l0 l1 l2 l3 M) : xX RX11 cX11_saint 5 (some .int) 5 35 [(0, .ref l0), (1, .int l1), (2, .int l2), (3, .int l3)] [] M (xQi Q) := by
  unfold NX11_saint_35 at h
  refine x_iconst dX11_saint_35 kc_0 36 rfl ?_
  exact nX11_saint_36 hk_l0 h
def FX11_saint (Q : Int32 → Mem → Prop) (l0 : Nat) (l1 : Int32) (l2 : Int32) (l3 : Int32) (M : Mem) : Prop :=
  FX11_within (fun (r4 : Bool) => ((r4 = false → NX11_saint_35 Q l0 l1 l2 l3 M) ∧ (r4 = true → FX11_within (fun (r5 : Bool) => ((r5 = false → NX11_saint_35 Q l0 l1 l2 l3 M) ∧ (r5 = true → FX11_within (fun (r6 : Bool) => ((r6 = false → NX11_saint_35 Q l0 l1 l2 l3 M) ∧ (r6 = true → NX11_saint_36 Q l0 l1 l2 l3 1 M))) l3 (-99) 99 M))) l2 0 9 M))) l1 0 120 M
theorem eX11_saint {Q : Int32 → Mem → Prop} {l0 : Nat} {l1 : Int32} {l2 : Int32} {l3 : Int32} {M : Mem} (hk_l0 : SHk l0 = 11) (h : FX11_saint Q l0 l1 l2 l3 M) : xX RX11 cX11_saint 5 (some .int) 5 0 [(0, .ref l0), (1, .int l1), (2, .int l2), (3, .int l3)] [] M (xQi Q) := by
  unfold FX11_saint at h
  refine x_iload_n dX11_saint_0 rfl 1 rfl ?_
  refine x_iconst dX11_saint_1 kc_0 2 rfl ?_
  refine x_bipush dX11_saint_2 kb_120 4 rfl ?_
  refine kX11_within dX11_saint_4 7 rfl kw2_213 (Nat.le_of_ble_eq_true rfl) (Nat.le_of_ble_eq_true rfl) h (fun r4 h => ?_)
  refine x_if_eq_b dX11_saint_7 35 10 rfl rfl (fun hc => ?_) (fun hc => ?_)
  · have h := h.1 hc
    exact nX11_saint_35 hk_l0 h
  · have h := h.2 hc
    refine x_iload_n dX11_saint_10 rfl 11 rfl ?_
    refine x_iconst dX11_saint_11 kc_0 12 rfl ?_
    refine x_bipush dX11_saint_12 kb_9 14 rfl ?_
    refine kX11_within dX11_saint_14 17 rfl kw2_213 (Nat.le_of_ble_eq_true rfl) (Nat.le_of_ble_eq_true rfl) h (fun r5 h => ?_)
    refine x_if_eq_b dX11_saint_17 35 20 rfl rfl (fun hc => ?_) (fun hc => ?_)
    · have h := h.1 hc
      exact nX11_saint_35 hk_l0 h
    · have h := h.2 hc
      refine x_iload_n dX11_saint_20 rfl 21 rfl ?_
      refine x_bipush dX11_saint_21 kb_m99 23 rfl ?_
      refine x_bipush dX11_saint_23 kb_99 25 rfl ?_
      refine kX11_within dX11_saint_25 28 rfl kw2_213 (Nat.le_of_ble_eq_true rfl) (Nat.le_of_ble_eq_true rfl) h (fun r6 h => ?_)
      refine x_if_eq_b dX11_saint_28 35 31 rfl rfl (fun hc => ?_) (fun hc => ?_)
      · have h := h.1 hc
        exact nX11_saint_35 hk_l0 h
      · have h := h.2 hc
        refine x_iconst dX11_saint_31 kc_1 32 rfl ?_
        refine x_goto dX11_saint_32 36 rfl ?_
        exact nX11_saint_36 hk_l0 h
theorem cX11_saint_ {Q : Int32 → Mem → Prop} {l0 : Nat} {l1 : Int32} {l2 : Int32} {l3 : Int32} {M : Mem} (hk_l0 : SHk l0 = 11) (h : FX11_saint Q l0 l1 l2 l3 M) : xM yX11_saint cX11_saint 5 (some .int) 5 [.ref l0, .int l1, .int l2, .int l3] M (xQi Q) := xM_of (by decide +kernel) (Nat.le_of_ble_eq_true rfl) (eX11_saint hk_l0 h)
theorem kX11_saint {own : String} {cc : ByteArray} {nL : Nat} {rt : Option FieldType} {d pc ix : Nat} {L : List (Nat × Value)} {st : List Value} {M : Mem} {Rt : xGt → Array Value → State → Outcome → State → Prop} {Q : Int32 → Mem → Prop} {l0 : Nat} {l1 : Int32} {l2 : Int32} {l3 : Int32} (hd : decode cc pc = .ok (.invokevirtual ix, 3)) (q : Nat) (hq : pc + 3 = q) (hk_l0 : SHk l0 = 11) (w1 : Cond.methodLink own ix yX11_saint ∈ xTs) (hr : 5 < d) (hst : (st.map fun v => v.category).sum ≤ 8) (h : FX11_saint Q l0 l1 l2 l3 M) (k : ∀ (r : Int32) (N : Mem), Q r N → xX own cc nL rt d q L (.int r :: st) N Rt) : xX own cc nL rt d pc L (.int l3 :: .int l2 :: .int l1 :: .ref l0 :: st) M Rt :=
  x_callV_i (n := 3) (As := [.int l1, .int l2, .int l3]) hd q hq hk_l0 (by decide) rfl rfl w1 kw2_210 kw2_211 kw1_1 kw2_212 (by decide +kernel) rfl hr (by decide) hst _ rfl (cX11_saint_ hk_l0 h) k
