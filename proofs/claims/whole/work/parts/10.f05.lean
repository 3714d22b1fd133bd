def FX11_set (Q : Bool → Mem → Prop) (l0 : Nat) (l1 : Int32) (l2 : Int32) (l3 : Int32) (M : Mem) : Prop :=
  FX9_change (fun (r2 : Bool) (M1 : Mem) => ((r2 = true → FX3_forget (fun (M3 : Mem) => Q true M3) (l0 + 77) M1) ∧ (r2 = false → Q false M1))) ((l0 + 1) + 1) l1 l2 l3 M
theorem eX11_set {Q : Bool → Mem → Prop} {l0 : Nat} {l1 : Int32} {l2 : Int32} {l3 : Int32} {M : Mem} (hk_l0 : SHk l0 = 11) (h : FX11_set Q l0 l1 l2 l3 M) : xX RX11 cX11_set 4 (some .boolean) 3 0 [(0, .ref l0), (1, .int l1), (2, .int l2), (3, .int l3)] [] M (xQb Q) := by
  unfold FX11_set at h
  refine x_aload_n dX11_set_0 rfl 1 rfl ?_
  refine gf11_0 dX11_set_1 4 rfl hk_l0 kw2_148 ?_
  refine gf0_0 dX11_set_4 7 rfl (ly11_0 hk_l0).1 kw2_10 ?_
  refine x_iload_n dX11_set_7 rfl 8 rfl ?_
  refine x_iload_n dX11_set_8 rfl 9 rfl ?_
  refine x_iload_n dX11_set_9 rfl 10 rfl ?_
  refine kX9_change dX11_set_10 13 rfl (ly0_0 (ly11_0 hk_l0).1).1 kw2_228 (Nat.le_of_ble_eq_true rfl) (Nat.le_of_ble_eq_true rfl) h (fun r2 M1 h => ?_)
  refine x_if_ne_b dX11_set_13 18 16 rfl rfl (fun hc => ?_) (fun hc => ?_)
  · have h := h.1 hc
    refine x_aload_n dX11_set_18 rfl 19 rfl ?_
    refine gf11_3 dX11_set_19 22 rfl hk_l0 kw2_151 ?_
    refine kX3_forget dX11_set_22 25 rfl (ly11_3 hk_l0).1 kw2_181 (Nat.le_of_ble_eq_true rfl) (Nat.le_of_ble_eq_true rfl) h (fun M3 h => ?_)
    refine x_iconst dX11_set_25 kc_1 26 rfl ?_
    exact x_zret (z := true) dX11_set_26 h
  · have h := h.2 hc
    refine x_iconst dX11_set_16 kc_0 17 rfl ?_
    exact x_zret (z := false) dX11_set_17 h
theorem cX11_set_ {Q : Bool → Mem → Prop} {l0 : Nat} {l1 : Int32} {l2 : Int32} {l3 : Int32} {M : Mem} (hk_l0 : SHk l0 = 11) (h : FX11_set Q l0 l1 l2 l3 M) : xM yX11_set cX11_set 4 (some .boolean) 3 [.ref l0, .int l1, .int l2, .int l3] M (xQb Q) := xM_of (by decide +kernel) (Nat.le_of_ble_eq_true rfl) (eX11_set hk_l0 h)
theorem kX11_set {own : String} {cc : ByteArray} {nL : Nat} {rt : Option FieldType} {d pc ix : Nat} {L : List (Nat × Value)} {st : List Value} {M : Mem} {Rt : xGt → Array Value → State → Outcome → State → Prop} {Q : Bool → Mem → Prop} {l0 : Nat} {l1 : Int32} {l2 : Int32} {l3 : Int32} (hd : decode cc pc = .ok (.invokevirtual ix, 3)) (q : Nat) (hq : pc + 3 = q) (hk_l0 : SHk l0 = 11) (w1 : Cond.methodLink own ix yX11_set ∈ xTs) (hr : 3 < d) (hst : (st.map fun v => v.category).sum ≤ 8) (h : FX11_set Q l0 l1 l2 l3 M) (k : ∀ (r : Bool) (N : Mem), Q r N → xX own cc nL rt d q L (.int (bI r) :: st) N Rt) : xX own cc nL rt d pc L (.int l3 :: .int l2 :: .int l1 :: .ref l0 :: st) M Rt :=
  x_callV_b (n := 3) (As := [.int l1, .int l2, .int l3]) hd q hq hk_l0 (by decide) rfl rfl w1 kw2_225 kw2_226 kw1_1 kw2_227 (by decide +kernel) rfl hr (by decide) hst _ rfl (cX11_set_ hk_l0 h) k
def FX11_act (Q : Bool → Mem → Prop) (l0 : Nat) (l1 : Int32) (l2 : Int32) (l3 : Int32) (M : Mem) : Prop :=
  FX9_canDo (fun (r1 : Bool) => ((r1 = true → FX3_keep (fun (M2 : Mem) => ((l1 = 0 → FJ9_min_7cf53 (fun (r3 : Int32) => ∀ M4 : Mem, M4 = xu M2 ((l0 + 1) + 1) 13 r3 → Q true M4) 999 ((M2 ((l0 + 1) + 1) 13) + l3) M2) ∧ (l1 = 1 → FX9_say (fun (M5 : Mem) => Q true M5) ((l0 + 1) + 1) l3 M2) ∧ (l1 = 2 → FX9_goDown (fun (M6 : Mem) => Q true M6) ((l0 + 1) + 1) l2 M2) ∧ (¬ l1 = 0 → ¬ l1 = 1 → ¬ l1 = 2 → FX9_raise (fun (M7 : Mem) => Q true M7) ((l0 + 1) + 1) l2 l3 M2))) (l0 + 77) ((l0 + 1) + 1) M) ∧ (r1 = false → Q false M))) ((l0 + 1) + 1) l1 l2 l3 M
theorem eX11_act {Q : Bool → Mem → Prop} {l0 : Nat} {l1 : Int32} {l2 : Int32} {l3 : Int32} {M : Mem} (hk_l0 : SHk l0 = 11) (h : FX11_act Q l0 l1 l2 l3 M) : xX RX11 cX11_act 5 (some .boolean) 5 0 [(0, .ref l0), (1, .int l1), (2, .int l2), (3, .int l3)] [] M (xQb Q) := by
  unfold FX11_act at h
  refine x_aload_n dX11_act_0 rfl 1 rfl ?_
  refine gf11_0 dX11_act_1 4 rfl hk_l0 kw2_148 ?_
  refine gf0_0 dX11_act_4 7 rfl (ly11_0 hk_l0).1 kw2_10 ?_
  refine x_astore dX11_act_7 (Nat.le_of_ble_eq_true rfl) [(0, .ref l0), (1, .int l1), (2, .int l2), (3, .int l3), (4, .ref ((l0 + 1) + 1))] rfl 9 rfl ?_
  refine x_aload dX11_act_9 rfl 11 rfl ?_
  refine x_iload_n dX11_act_11 rfl 12 rfl ?_
  refine x_iload_n dX11_act_12 rfl 13 rfl ?_
  refine x_iload_n dX11_act_13 rfl 14 rfl ?_
  refine kX9_canDo dX11_act_14 17 rfl (ly0_0 (ly11_0 hk_l0).1).1 kw3_1 (Nat.le_of_ble_eq_true rfl) (Nat.le_of_ble_eq_true rfl) h (fun r1 h => ?_)
  refine x_if_ne_b dX11_act_17 22 20 rfl rfl (fun hc => ?_) (fun hc => ?_)
  · have h := h.1 hc
    refine x_aload_n dX11_act_22 rfl 23 rfl ?_
    refine gf11_3 dX11_act_23 26 rfl hk_l0 kw2_151 ?_
    refine x_aload dX11_act_26 rfl 28 rfl ?_
    refine kX3_keep dX11_act_28 31 rfl (ly11_3 hk_l0).1 (ly0_0 (ly11_0 hk_l0).1).1 kw3_17 (Nat.le_of_ble_eq_true rfl) (Nat.le_of_ble_eq_true rfl) h (fun M2 h => ?_)
    refine x_iload_n dX11_act_31 rfl 32 rfl ?_
    by_cases hc0 : l1 = 0
    · refine x_tab_at dX11_act_32 hc0 (by decide) (by decide) rfl (tg := 60) rfl ?_
      have h := h.1 hc0
      refine x_aload dX11_act_60 rfl 62 rfl ?_
      refine x_sipush dX11_act_62 kh_999 65 rfl ?_
      refine x_aload dX11_act_65 rfl 67 rfl ?_
      refine gf9_13 dX11_act_67 70 rfl (ly0_0 (ly11_0 hk_l0).1).1 kw1_81 ?_
      refine x_iload_n dX11_act_70 rfl 71 rfl ?_
      refine x_iadd dX11_act_71 72 rfl ?_
      refine kJ9_min_7cf53 dX11_act_72 75 rfl kw3_35 (Nat.le_of_ble_eq_true rfl) (Nat.le_of_ble_eq_true rfl) h (fun r3 h => ?_)
      refine pf9_13 dX11_act_75 78 rfl (ly0_0 (ly11_0 hk_l0).1).1 kw1_81 (x_mem (fun M4 hM4 => ?_))
      have h := h M4 hM4
      refine x_goto dX11_act_78 106 rfl ?_
      refine x_iconst dX11_act_106 kc_1 107 rfl ?_
      exact x_zret (z := true) dX11_act_107 h
    by_cases hc1 : l1 = 1
    · refine x_tab_at dX11_act_32 hc1 (by decide) (by decide) rfl (tg := 81) rfl ?_
      have h := h.2.1 hc1
      refine x_aload dX11_act_81 rfl 83 rfl ?_
      refine x_iload_n dX11_act_83 rfl 84 rfl ?_
      refine kX9_say dX11_act_84 87 rfl (ly0_0 (ly11_0 hk_l0).1).1 kw3_36 (Nat.le_of_ble_eq_true rfl) (Nat.le_of_ble_eq_true rfl) h (fun M5 h => ?_)
      refine x_goto dX11_act_87 106 rfl ?_
      refine x_iconst dX11_act_106 kc_1 107 rfl ?_
      exact x_zret (z := true) dX11_act_107 h
    by_cases hc2 : l1 = 2
    · refine x_tab_at dX11_act_32 hc2 (by decide) (by decide) rfl (tg := 90) rfl ?_
      have h := h.2.2.1 hc2
      refine x_aload dX11_act_90 rfl 92 rfl ?_
      refine x_iload_n dX11_act_92 rfl 93 rfl ?_
      refine kX9_goDown dX11_act_93 96 rfl (ly0_0 (ly11_0 hk_l0).1).1 kw3_40 (Nat.le_of_ble_eq_true rfl) (Nat.le_of_ble_eq_true rfl) h (fun M6 h => ?_)
      refine x_goto dX11_act_96 106 rfl ?_
      refine x_iconst dX11_act_106 kc_1 107 rfl ?_
      exact x_zret (z := true) dX11_act_107 h
    have h := h.2.2.2 hc0 hc1 hc2
    refine x_tab_out dX11_act_32 (by have a0 := lv_neT hc0 (a := 0) (by decide); have a1 := lv_neT hc1 (a := 1) (by decide); have a2 := lv_neT hc2 (a := 2) (by decide); show (l1 : Int32).toInt < 0 ∨ 2 < (l1 : Int32).toInt; omega) (tg := 99) rfl ?_
    refine x_aload dX11_act_99 rfl 101 rfl ?_
    refine x_iload_n dX11_act_101 rfl 102 rfl ?_
    refine x_iload_n dX11_act_102 rfl 103 rfl ?_
    refine kX9_raise dX11_act_103 106 rfl (ly0_0 (ly11_0 hk_l0).1).1 kw3_44 (Nat.le_of_ble_eq_true rfl) (Nat.le_of_ble_eq_true rfl) h (fun M7 h => ?_)
    refine x_iconst dX11_act_106 kc_1 107 rfl ?_
    exact x_zret (z := true) dX11_act_107 h
  · have h := h.2 hc
    refine x_iconst dX11_act_20 kc_0 21 rfl ?_
    exact x_zret (z := false) dX11_act_21 h
theorem cX11_act_ {Q : Bool → Mem → Prop} {l0 : Nat} {l1 : Int32} {l2 : Int32} {l3 : Int32} {M : Mem} (hk_l0 : SHk l0 = 11) (h : FX11_act Q l0 l1 l2 l3 M) : xM yX11_act cX11_act 5 (some .boolean) 5 [.ref l0, .int l1, .int l2, .int l3] M (xQb Q) := xM_of (by decide +kernel) (Nat.le_of_ble_eq_true rfl) (eX11_act hk_l0 h)
theorem kX11_act {own : String} {cc : ByteArray} {nL : Nat} {rt : Option FieldType} {d pc ix : Nat} {L : List (Nat × Value)} {st : List Value} {M : Mem} {Rt : xGt → Array Value → State → Outcome → State → Prop} {Q : Bool → Mem → Prop} {l0 : Nat} {l1 : Int32} {l2 : Int32} {l3 : Int32} (hd : decode cc pc = .ok (.invokevirtual ix, 3)) (q : Nat) (hq : pc + 3 = q) (hk_l0 : SHk l0 = 11) (w1 : Cond.methodLink own ix yX11_act ∈ xTs) (hr : 5 < d) (hst : (st.map fun v => v.category).sum ≤ 8) (h : FX11_act Q l0 l1 l2 l3 M) (k : ∀ (r : Bool) (N : Mem), Q r N → xX own cc nL rt d q L (.int (bI r) :: st) N Rt) : xX own cc nL rt d pc L (.int l3 :: .int l2 :: .int l1 :: .ref l0 :: st) M Rt :=
  x_callV_b (n := 3) (As := [.int l1, .int l2, .int l3]) hd q hq hk_l0 (by decide) rfl rfl w1 kw2_238 kw2_239 kw1_1 kw3_0 (by decide +kernel) rfl hr (by decide) hst _ rfl (cX11_act_ hk_l0 h) k
def lbX11_days_38 (Q : Int32 → Mem → Prop) (l0 : Nat) (l1 : Int32) (l2 : Nat) (B38 : Int32 → Int32 → Mem → Prop) (l3 : Int32) (l4 : Int32) (M : Mem) : Prop :=
  ((l1 ≤ l4 → Q l3 M) ∧ (¬ l1 ≤ l4 → FX3_keep (fun (M1 : Mem) => FX0_passDay (fun (r3 : Int32) (M2 : Mem) => B38 (l3 + r3) (l4 + 1) M2) (l0 + 1) l2 0 M1) (l0 + 77) l2 M))
def NX11_days_38 (Q : Int32 → Mem → Prop) (l0 : Nat) (l1 : Int32) (l2 : Nat) (l3 : Int32) (l4 : Int32) (M : Mem) : Prop := xlp (fun (B : Int32 × Int32 × Mem → Prop) a => lbX11_days_38 Q l0 l1 l2 (fun l3 l4 M => B (l3, l4, M)) a.1 a.2.1 a.2.2) (l3, l4, M)
theorem nX11_days_38 {Q : Int32 → Mem → Prop} {l0 : Nat} {l1 : Int32} {l2 : Nat} {l3 : Int32} {l4 : Int32} {M : Mem} (hk_l0 : SHk l0 = 11) (hk_l2 : SHk l2 = 9) (h : NX11_days_38 Q l0 l1 l2 l3 l4 M) : xX RX11 cX11_days 5 (some .int) 8 38 [(0, .ref l0), (1, .int l1), (2, .ref l2), (3, .int l3), (4, .int l4)] [] M (xQi Q) := by
  obtain ⟨n, h⟩ := h
  have hB38 : ∀ (n : Nat) (l3 : Int32) (l4 : Int32) (M : Mem), xlpn (fun (B : Int32 × Int32 × Mem → Prop) a => lbX11_days_38 Q l0 l1 l2 (fun l3 l4 M => B (l3, l4, M)) a.1 a.2.1 a.2.2) n (l3, l4, M) → xX RX11 cX11_days 5 (some .int) 8 38 [(0, .ref l0), (1, .int l1), (2, .ref l2), (3, .int l3), (4, .int l4)] [] M (xQi Q) := by
    intro n
    induction n with
    | zero => intro l3 l4 M h; exact False.elim h
    | succ n ih =>
      intro l3 l4 M h
      have hB38 := ih
      have h : lbX11_days_38 Q l0 l1 l2 (fun l3 l4 M => xlpn (fun (B : Int32 × Int32 × Mem → Prop) a => lbX11_days_38 Q l0 l1 l2 (fun l3 l4 M => B (l3, l4, M)) a.1 a.2.1 a.2.2) n (l3, l4, M)) l3 l4 M := h
      unfold lbX11_days_38 at h
      refine x_iload dX11_days_38 rfl 40 rfl ?_
      refine x_iload_n dX11_days_40 rfl 41 rfl ?_
      refine x_icmp_ge dX11_days_41 70 44 rfl rfl (fun hc => ?_) (fun hc => ?_)
      · have h := h.1 hc
        refine x_iload_n dX11_days_70 rfl 71 rfl ?_
        exact x_iret dX11_days_71 h
      · have h := h.2 hc
        refine x_aload_n dX11_days_44 rfl 45 rfl ?_
        refine gf11_3 dX11_days_45 48 rfl hk_l0 kw2_151 ?_
        refine x_aload_n dX11_days_48 rfl 49 rfl ?_
        refine kX3_keep dX11_days_49 52 rfl (ly11_3 hk_l0).1 hk_l2 kw3_17 (Nat.le_of_ble_eq_true rfl) (Nat.le_of_ble_eq_true rfl) h (fun M1 h => ?_)
        refine x_iload_n dX11_days_52 rfl 53 rfl ?_
        refine x_aload_n dX11_days_53 rfl 54 rfl ?_
        refine gf11_0 dX11_days_54 57 rfl hk_l0 kw2_148 ?_
        refine x_aload_n dX11_days_57 rfl 58 rfl ?_
        refine x_iconst dX11_days_58 kc_0 59 rfl ?_
        refine kX0_passDay dX11_days_59 62 rfl (ly11_0 hk_l0).1 hk_l2 kw3_52 (Nat.le_of_ble_eq_true rfl) (Nat.le_of_ble_eq_true rfl) h (fun r3 M2 h => ?_)
        refine x_iadd dX11_days_62 63 rfl ?_
        refine x_istore_n dX11_days_63 (Nat.le_of_ble_eq_true rfl) [(0, .ref l0), (1, .int l1), (2, .ref l2), (3, .int (l3 + r3)), (4, .int l4)] rfl 64 rfl ?_
        refine x_iinc dX11_days_64 rfl (congrArg (l4 + ·) kc_1) (Nat.le_of_ble_eq_true rfl) [(0, .ref l0), (1, .int l1), (2, .ref l2), (3, .int (l3 + r3)), (4, .int (l4 + 1))] rfl 67 rfl ?_
        refine x_goto dX11_days_67 38 rfl ?_
        exact hB38 _ _ _ h
  exact hB38 n l3 l4 M h
def FX11_days (Q : Int32 → Mem → Prop) (l0 : Nat) (l1 : Int32) (M : Mem) : Prop :=
  ((l1 < 1 → Q (-1) M) ∧ (¬ l1 < 1 → ((60 < l1 → Q (-1) M) ∧ (¬ 60 < l1 → ((((M ((l0 + 1) + 1) 15) + l1) ≤ 9999 → NX11_days_38 Q l0 l1 ((l0 + 1) + 1) 0 0 M) ∧ (¬ ((M ((l0 + 1) + 1) 15) + l1) ≤ 9999 → Q (-1) M))))))
theorem eX11_days {Q : Int32 → Mem → Prop} {l0 : Nat} {l1 : Int32} {M : Mem} (hk_l0 : SHk l0 = 11) (h : FX11_days Q l0 l1 M) : xX RX11 cX11_days 5 (some .int) 8 0 [(0, .ref l0), (1, .int l1)] [] M (xQi Q) := by
  unfold FX11_days at h
  refine x_aload_n dX11_days_0 rfl 1 rfl ?_
  refine gf11_0 dX11_days_1 4 rfl hk_l0 kw2_148 ?_
  refine gf0_0 dX11_days_4 7 rfl (ly11_0 hk_l0).1 kw2_10 ?_
  refine x_astore_n dX11_days_7 (Nat.le_of_ble_eq_true rfl) [(0, .ref l0), (1, .int l1), (2, .ref ((l0 + 1) + 1))] rfl 8 rfl ?_
  refine x_iload_n dX11_days_8 rfl 9 rfl ?_
  refine x_iconst dX11_days_9 kc_1 10 rfl ?_
  refine x_icmp_lt dX11_days_10 31 13 rfl rfl (fun hc => ?_) (fun hc => ?_)
  · have h := h.1 hc
    refine x_iconst dX11_days_31 kc_m1 32 rfl ?_
    exact x_iret dX11_days_32 h
  · have h := h.2 hc
    refine x_iload_n dX11_days_13 rfl 14 rfl ?_
    refine x_bipush dX11_days_14 kb_60 16 rfl ?_
    refine x_icmp_gt dX11_days_16 31 19 rfl rfl (fun hc => ?_) (fun hc => ?_)
    · have h := h.1 hc
      refine x_iconst dX11_days_31 kc_m1 32 rfl ?_
      exact x_iret dX11_days_32 h
    · have h := h.2 hc
      refine x_aload_n dX11_days_19 rfl 20 rfl ?_
      refine gf9_15 dX11_days_20 23 rfl (ly0_0 (ly11_0 hk_l0).1).1 kw1_88 ?_
      refine x_iload_n dX11_days_23 rfl 24 rfl ?_
      refine x_iadd dX11_days_24 25 rfl ?_
      refine x_sipush dX11_days_25 kh_9999 28 rfl ?_
      refine x_icmp_le dX11_days_28 33 31 rfl rfl (fun hc => ?_) (fun hc => ?_)
      · have h := h.1 hc
        refine x_iconst dX11_days_33 kc_0 34 rfl ?_
        refine x_istore_n dX11_days_34 (Nat.le_of_ble_eq_true rfl) [(0, .ref l0), (1, .int l1), (2, .ref ((l0 + 1) + 1)), (3, .int 0)] rfl 35 rfl ?_
        refine x_iconst dX11_days_35 kc_0 36 rfl ?_
        refine x_istore dX11_days_36 (Nat.le_of_ble_eq_true rfl) [(0, .ref l0), (1, .int l1), (2, .ref ((l0 + 1) + 1)), (3, .int 0), (4, .int 0)] rfl 38 rfl ?_
        exact nX11_days_38 hk_l0 (ly0_0 (ly11_0 hk_l0).1).1 h
      · have h := h.2 hc
        refine x_iconst dX11_days_31 kc_m1 32 rfl ?_
        exact x_iret dX11_days_32 h
theorem cX11_days_ {Q : Int32 → Mem → Prop} {l0 : Nat} {l1 : Int32} {M : Mem} (hk_l0 : SHk l0 = 11) (h : FX11_days Q l0 l1 M) : xM yX11_days cX11_days 5 (some .int) 8 [.ref l0, .int l1] M (xQi Q) := xM_of (by decide +kernel) (Nat.le_of_ble_eq_true rfl) (eX11_days hk_l0 h)
theorem kX11_days {own : String} {cc : ByteArray} {nL : Nat} {rt : Option FieldType} {d pc ix : Nat} {L : List (Nat × Value)} {st : List Value} {M : Mem} {Rt : xGt → Array Value → State → Outcome → State → Prop} {Q : Int32 → Mem → Prop} {l0 : Nat} {l1 : Int32} (hd : decode cc pc = .ok (.invokevirtual ix, 3)) (q : Nat) (hq : pc + 3 = q) (hk_l0 : SHk l0 = 11) (w1 : Cond.methodLink own ix yX11_days ∈ xTs) (hr : 8 < d) (hst : (st.map fun v => v.category).sum ≤ 8) (h : FX11_days Q l0 l1 M) (k : ∀ (r : Int32) (N : Mem), Q r N → xX own cc nL rt d q L (.int r :: st) N Rt) : xX own cc nL rt d pc L (.int l1 :: .ref l0 :: st) M Rt :=
  x_callV_i (n := 1) (As := [.int l1]) hd q hq hk_l0 (by decide) rfl rfl w1 kw3_49 kw3_50 kw1_1 kw3_51 (by decide +kernel) rfl hr (by decide) hst _ rfl (cX11_days_ hk_l0 h) k
def lbX11_putNumber_3 (Q : Mem → Prop) (l0 : Nat) (l1 : Int32) (B3 : Int32 → Mem → Prop) (l2 : Int32) (M : Mem) : Prop :=
  ((l2 < 0 → Q M) ∧ (¬ l2 < 0 → ((400 ≤ (M l0 7) → B3 (l2 + (-8)) M) ∧ (¬ 400 ≤ (M l0 7) → vp_in (M l0 7) 400 ∧ ∀ M1 : Mem, M1 = xu M (l0 + 165) (ix (M l0 7)) (vp_nar .byte (((l1.toUInt32 >>> ((l2 : Int32).toUInt32 &&& Int32.toUInt32 31)).toInt32).toInt8.toInt32)) → ∀ M2 : Mem, M2 = xu M1 l0 7 ((M1 l0 7) + 1) → B3 (l2 + (-8)) M2))))
def NX11_putNumber_3 (Q : Mem → Prop) (l0 : Nat) (l1 : Int32) (l2 : Int32) (M : Mem) : Prop := xlp (fun (B : Int32 × Mem → Prop) a => lbX11_putNumber_3 Q l0 l1 (fun l2 M => B (l2, M)) a.1 a.2) (l2, M)
theorem nX11_putNumber_3 {Q : Mem → Prop} {l0 : Nat} {l1 : Int32} {l2 : Int32} {M : Mem} (hk_l0 : SHk l0 = 11) (h : NX11_putNumber_3 Q l0 l1 l2 M) : xX RX11 cX11_putNumber 3 none 1 3 [(0, .ref l0), (1, .int l1), (2, .int l2)] [] M (xQv Q) := by
  obtain ⟨n, h⟩ := h
  have hB3 : ∀ (n : Nat) (l2 : Int32) (M : Mem), xlpn (fun (B : Int32 × Mem → Prop) a => lbX11_putNumber_3 Q l0 l1 (fun l2 M => B (l2, M)) a.1 a.2) n (l2, M) → xX RX11 cX11_putNumber 3 none 1 3 [(0, .ref l0), (1, .int l1), (2, .int l2)] [] M (xQv Q) := by
    intro n
    induction n with
    | zero => intro l2 M h; exact False.elim h
    | succ n ih =>
      intro l2 M h
      have hB3 := ih
      have h : lbX11_putNumber_3 Q l0 l1 (fun l2 M => xlpn (fun (B : Int32 × Mem → Prop) a => lbX11_putNumber_3 Q l0 l1 (fun l2 M => B (l2, M)) a.1 a.2) n (l2, M)) l2 M := h
      unfold lbX11_putNumber_3 at h
      refine x_iload_n dX11_putNumber_3 rfl 4 rfl ?_
      refine x_if_lt dX11_putNumber_4 46 7 rfl rfl (fun hc => ?_) (fun hc => ?_)
      · have h := h.1 hc
        exact x_vret dX11_putNumber_46 h
      · have h := h.2 hc
        refine x_aload_n dX11_putNumber_7 rfl 8 rfl ?_
        refine gf11_7 dX11_putNumber_8 11 rfl hk_l0 kw2_155 ?_
        refine x_sipush dX11_putNumber_11 kh_400 14 rfl ?_
        refine x_icmp_ge dX11_putNumber_14 40 17 rfl rfl (fun hc => ?_) (fun hc => ?_)
        · have h := h.1 hc
          refine x_iinc dX11_putNumber_40 rfl (congrArg (l2 + ·) kc_m8) (Nat.le_of_ble_eq_true rfl) [(0, .ref l0), (1, .int l1), (2, .int (l2 + (-8)))] rfl 43 rfl ?_
          refine x_goto dX11_putNumber_43 3 rfl ?_
          exact hB3 _ _ h
        · have h := h.2 hc
          refine x_aload_n dX11_putNumber_17 rfl 18 rfl ?_
          refine gf11_6 dX11_putNumber_18 21 rfl hk_l0 kw2_154 ?_
          refine x_aload_n dX11_putNumber_21 rfl 22 rfl ?_
          refine gf11_7 dX11_putNumber_22 25 rfl hk_l0 kw2_155 ?_
          refine x_iload_n dX11_putNumber_25 rfl 26 rfl ?_
          refine x_iload_n dX11_putNumber_26 rfl 27 rfl ?_
          refine x_iushr dX11_putNumber_27 28 rfl ?_
          refine x_i2b dX11_putNumber_28 29 rfl ?_
          obtain ⟨hin, h⟩ := h
          refine x_bastore dX11_putNumber_29 (ly11_6 hk_l0) hin 30 rfl (x_mem (fun M1 hM1 => ?_))
          have h := h M1 hM1
          refine x_aload_n dX11_putNumber_30 rfl 31 rfl ?_
          refine x_dup dX11_putNumber_31 rfl 32 rfl ?_
          refine gf11_7 dX11_putNumber_32 35 rfl hk_l0 kw2_155 ?_
          refine x_iconst dX11_putNumber_35 kc_1 36 rfl ?_
          refine x_iadd dX11_putNumber_36 37 rfl ?_
          refine pf11_7 dX11_putNumber_37 40 rfl hk_l0 kw2_155 (x_mem (fun M2 hM2 => ?_))
          have h := h M2 hM2
          refine x_iinc dX11_putNumber_40 rfl (congrArg (l2 + ·) kc_m8) (Nat.le_of_ble_eq_true rfl) [(0, .ref l0), (1, .int l1), (2, .int (l2 + (-8)))] rfl 43 rfl ?_
          refine x_goto dX11_putNumber_43 3 rfl ?_
          exact hB3 _ _ h
  exact hB3 n l2 M h
def FX11_putNumber (Q : Mem → Prop) (l0 : Nat) (l1 : Int32) (M : Mem) : Prop :=
  NX11_putNumber_3 Q l0 l1 24 M
theorem eX11_putNumber {Q : Mem → Prop} {l0 : Nat} {l1 : Int32} {M : Mem} (hk_l0 : SHk l0 = 11) (h : FX11_putNumber Q l0 l1 M) : xX RX11 cX11_putNumber 3 none 1 0 [(0, .ref l0), (1, .int l1)] [] M (xQv Q) := by
  unfold FX11_putNumber at h
  refine x_bipush dX11_putNumber_0 kb_24 2 rfl ?_
  refine x_istore_n dX11_putNumber_2 (Nat.le_of_ble_eq_true rfl) [(0, .ref l0), (1, .int l1), (2, .int 24)] rfl 3 rfl ?_
  exact nX11_putNumber_3 hk_l0 h
theorem cX11_putNumber_ {Q : Mem → Prop} {l0 : Nat} {l1 : Int32} {M : Mem} (hk_l0 : SHk l0 = 11) (h : FX11_putNumber Q l0 l1 M) : xM yX11_putNumber cX11_putNumber 3 none 1 [.ref l0, .int l1] M (xQv Q) := xM_of (by decide +kernel) (Nat.le_of_ble_eq_true rfl) (eX11_putNumber hk_l0 h)
theorem kX11_putNumber {own : String} {cc : ByteArray} {nL : Nat} {rt : Option FieldType} {d pc ix : Nat} {L : List (Nat × Value)} {st : List Value} {M : Mem} {Rt : xGt → Array Value → State → Outcome → State → Prop} {Q : Mem → Prop} {l0 : Nat} {l1 : Int32} (hd : decode cc pc = .ok (.invokevirtual ix, 3)) (q : Nat) (hq : pc + 3 = q) (hk_l0 : SHk l0 = 11) (w1 : Cond.methodLink own ix yX11_putNumber ∈ xTs) (hr : 1 < d) (hst : (st.map fun v => v.category).sum ≤ 8) (h : FX11_putNumber Q l0 l1 M) (k : ∀ (N : Mem), Q N → xX own cc nL rt d q L st N Rt) : xX own cc nL rt d pc L (.int l1 :: .ref l0 :: st) M Rt :=
  x_callV_v (n := 1) (As := [.int l1]) hd q hq hk_l0 (by decide) rfl rfl w1 kw3_175 ks1_11 kw1_1 kw3_176 (by decide +kernel) rfl hr (by decide) hst _ rfl (cX11_putNumber_ hk_l0 h) k
def FX11_feed (Q : Int32 → Mem → Prop) (l0 : Nat) (l1 : Int32) (l2 : Int32) (l3 : Int32) (l4 : Int32) (l5 : Int32) (M : Mem) : Prop :=
  (((M l0 7) ≤ 380 → FX11_putNumber (fun (M1 : Mem) => FX11_putNumber (fun (M2 : Mem) => FX11_putNumber (fun (M3 : Mem) => FX11_putNumber (fun (M4 : Mem) => FX11_putNumber (fun (M5 : Mem) => Q (M5 l0 7) M5) l0 l5 M4) l0 l4 M3) l0 l3 M2) l0 l2 M1) l0 l1 M) ∧ (¬ (M l0 7) ≤ 380 → Q (-1) M))
theorem eX11_feed {Q : Int32 → Mem → Prop} {l0 : Nat} {l1 : Int32} {l2 : Int32} {l3 : Int32} {l4 : Int32} {l5 : Int32} {M : Mem} (hk_l0 : SHk l0 = 11) (h : FX11_feed Q l0 l1 l2 l3 l4 l5 M) : xX RX11 cX11_feed 6 (some .int) 2 0 [(0, .ref l0), (1, .int l1), (2, .int l2), (3, .int l3), (4, .int l4), (5, .int l5)] [] M (xQi Q) := by
  unfold FX11_feed at h
  refine x_aload_n dX11_feed_0 rfl 1 rfl ?_
  refine gf11_7 dX11_feed_1 4 rfl hk_l0 kw2_155 ?_
  refine x_sipush dX11_feed_4 kh_380 7 rfl ?_
  refine x_icmp_le dX11_feed_7 12 10 rfl rfl (fun hc => ?_) (fun hc => ?_)
  · have h := h.1 hc
    refine x_aload_n dX11_feed_12 rfl 13 rfl ?_
    refine x_iload_n dX11_feed_13 rfl 14 rfl ?_
    refine kX11_putNumber dX11_feed_14 17 rfl hk_l0 kw3_173 (Nat.le_of_ble_eq_true rfl) (Nat.le_of_ble_eq_true rfl) h (fun M1 h => ?_)
    refine x_aload_n dX11_feed_17 rfl 18 rfl ?_
    refine x_iload_n dX11_feed_18 rfl 19 rfl ?_
    refine kX11_putNumber dX11_feed_19 22 rfl hk_l0 kw3_173 (Nat.le_of_ble_eq_true rfl) (Nat.le_of_ble_eq_true rfl) h (fun M2 h => ?_)
    refine x_aload_n dX11_feed_22 rfl 23 rfl ?_
    refine x_iload_n dX11_feed_23 rfl 24 rfl ?_
    refine kX11_putNumber dX11_feed_24 27 rfl hk_l0 kw3_173 (Nat.le_of_ble_eq_true rfl) (Nat.le_of_ble_eq_true rfl) h (fun M3 h => ?_)
    refine x_aload_n dX11_feed_27 rfl 28 rfl ?_
    refine x_iload dX11_feed_28 rfl 30 rfl ?_
    refine kX11_putNumber dX11_feed_30 33 rfl hk_l0 kw3_173 (Nat.le_of_ble_eq_true rfl) (Nat.le_of_ble_eq_true rfl) h (fun M4 h => ?_)
    refine x_aload_n dX11_feed_33 rfl 34 rfl ?_
    refine x_iload dX11_feed_34 rfl 36 rfl ?_
    refine kX11_putNumber dX11_feed_36 39 rfl hk_l0 kw3_173 (Nat.le_of_ble_eq_true rfl) (Nat.le_of_ble_eq_true rfl) h (fun M5 h => ?_)
    refine x_aload_n dX11_feed_39 rfl 40 rfl ?_
    refine gf11_7 dX11_feed_40 43 rfl hk_l0 kw2_155 ?_
    exact x_iret dX11_feed_43 h
  · have h := h.2 hc
    refine x_iconst dX11_feed_10 kc_m1 11 rfl ?_
    exact x_iret dX11_feed_11 h
theorem cX11_feed_ {Q : Int32 → Mem → Prop} {l0 : Nat} {l1 : Int32} {l2 : Int32} {l3 : Int32} {l4 : Int32} {l5 : Int32} {M : Mem} (hk_l0 : SHk l0 = 11) (h : FX11_feed Q l0 l1 l2 l3 l4 l5 M) : xM yX11_feed cX11_feed 6 (some .int) 2 [.ref l0, .int l1, .int l2, .int l3, .int l4, .int l5] M (xQi Q) := xM_of (by decide +kernel) (Nat.le_of_ble_eq_true rfl) (eX11_feed hk_l0 h)
theorem kX11_feed {own : String} {cc : ByteArray} {nL : Nat} {rt : Option FieldType} {d pc ix : Nat} {L : List (Nat × Value)} {st : List Value} {M : Mem} {Rt : xGt → Array Value → State → Outcome → State → Prop} {Q : Int32 → Mem → Prop} {l0 : Nat} {l1 : Int32} {l2 : Int32} {l3 : Int32} {l4 : Int32} {l5 : Int32} (hd : decode cc pc = .ok (.invokevirtual ix, 3)) (q : Nat) (hq : pc + 3 = q) (hk_l0 : SHk l0 = 11) (w1 : Cond.methodLink own ix yX11_feed ∈ xTs) (hr : 2 < d) (hst : (st.map fun v => v.category).sum ≤ 8) (h : FX11_feed Q l0 l1 l2 l3 l4 l5 M) (k : ∀ (r : Int32) (N : Mem), Q r N → xX own cc nL rt d q L (.int r :: st) N Rt) : xX own cc nL rt d pc L (.int l5 :: .int l4 :: .int l3 :: .int l2 :: .int l1 :: .ref l0 :: st) M Rt :=
  x_callV_i (n := 5) (As := [.int l1, .int l2, .int l3, .int l4, .int l5]) hd q hq hk_l0 (by decide) rfl rfl w1 kw3_170 kw3_171 kw1_1 kw3_172 (by decide +kernel) rfl hr (by decide) hst _ rfl (cX11_feed_ hk_l0 h) k
def FX11_end (Q : Bool → Mem → Prop) (l0 : Nat) (l1 : Int32) (M : Mem) : Prop :=
  ((l1 < 0 → Q false M) ∧ (¬ l1 < 0 → ((l1 ≤ (M l0 7) → ∀ M1 : Mem, M1 = xu M l0 7 l1 → Q true M1) ∧ (¬ l1 ≤ (M l0 7) → Q false M))))
theorem eX11_end {Q : Bool → Mem → Prop} {l0 : Nat} {l1 : Int32} {M : Mem} (hk_l0 : SHk l0 = 11) (h : FX11_end Q l0 l1 M) : xX RX11 cX11_end 2 (some .boolean) 1 0 [(0, .ref l0), (1, .int l1)] [] M (xQb Q) := by
  unfold FX11_end at h
  refine x_iload_n dX11_end_0 rfl 1 rfl ?_
  refine x_if_lt dX11_end_1 12 4 rfl rfl (fun hc => ?_) (fun hc => ?_)
  · have h := h.1 hc
    refine x_iconst dX11_end_12 kc_0 13 rfl ?_
    exact x_zret (z := false) dX11_end_13 h
  · have h := h.2 hc
    refine x_iload_n dX11_end_4 rfl 5 rfl ?_
    refine x_aload_n dX11_end_5 rfl 6 rfl ?_
    refine gf11_7 dX11_end_6 9 rfl hk_l0 kw2_155 ?_
    refine x_icmp_le dX11_end_9 14 12 rfl rfl (fun hc => ?_) (fun hc => ?_)
    · have h := h.1 hc
      refine x_aload_n dX11_end_14 rfl 15 rfl ?_
      refine x_iload_n dX11_end_15 rfl 16 rfl ?_
      refine pf11_7 dX11_end_16 19 rfl hk_l0 kw2_155 (x_mem (fun M1 hM1 => ?_))
      have h := h M1 hM1
      refine x_iconst dX11_end_19 kc_1 20 rfl ?_
      exact x_zret (z := true) dX11_end_20 h
    · have h := h.2 hc
      refine x_iconst dX11_end_12 kc_0 13 rfl ?_
      exact x_zret (z := false) dX11_end_13 h
theorem cX11_end_ {Q : Bool → Mem → Prop} {l0 : Nat} {l1 : Int32} {M : Mem} (hk_l0 : SHk l0 = 11) (h : FX11_end Q l0 l1 M) : xM yX11_end cX11_end 2 (some .boolean) 1 [.ref l0, .int l1] M (xQb Q) := xM_of (by decide +kernel) (Nat.le_of_ble_eq_true rfl) (eX11_end hk_l0 h)
theorem kX11_end {own : String} {cc : ByteArray} {nL : Nat} {rt : Option FieldType} {d pc ix : Nat} {L : List (Nat × Value)} {st : List Value} {M : Mem} {Rt : xGt → Array Value → State → Outcome → State → Prop} {Q : Bool → Mem → Prop} {l0 : Nat} {l1 : Int32} (hd : decode cc pc = .ok (.invokevirtual ix, 3)) (q : Nat) (hq : pc + 3 = q) (hk_l0 : SHk l0 = 11) (w1 : Cond.methodLink own ix yX11_end ∈ xTs) (hr : 1 < d) (hst : (st.map fun v => v.category).sum ≤ 8) (h : FX11_end Q l0 l1 M) (k : ∀ (r : Bool) (N : Mem), Q r N → xX own cc nL rt d q L (.int (bI r) :: st) N Rt) : xX own cc nL rt d pc L (.int l1 :: .ref l0 :: st) M Rt :=
  x_callV_b (n := 1) (As := [.int l1]) hd q hq hk_l0 (by decide) rfl rfl w1 kw3_178 kw3_179 kw1_1 kw3_180 (by decide +kernel) rfl hr (by decide) hst _ rfl (cX11_end_ hk_l0 h) k
def FX11_fault (Q : Int32 → Prop) (l0 : Nat) (l1 : Int32) (M : Mem) : Prop :=
  ((¬ l1 = 0 → ((¬ l1 = 1 → Q (-1)) ∧ (l1 = 1 → Q (M (l0 + 139) 11)))) ∧ (l1 = 0 → Q (M (l0 + 139) 10)))
theorem eX11_fault {Q : Int32 → Prop} {l0 : Nat} {l1 : Int32} {M : Mem} (hk_l0 : SHk l0 = 11) (h : FX11_fault Q l0 l1 M) : xX RX11 cX11_fault 2 (some .int) 1 0 [(0, .ref l0), (1, .int l1)] [] M (xQi (xP M Q)) := by
  unfold FX11_fault at h
  refine x_iload_n dX11_fault_0 rfl 1 rfl ?_
  refine x_if_ne dX11_fault_1 12 4 rfl rfl (fun hc => ?_) (fun hc => ?_)
  · have h := h.1 hc
    refine x_iload_n dX11_fault_12 rfl 13 rfl ?_
    refine x_iconst dX11_fault_13 kc_1 14 rfl ?_
    refine x_icmp_ne dX11_fault_14 27 17 rfl rfl (fun hc => ?_) (fun hc => ?_)
    · have h := h.1 hc
      refine x_iconst dX11_fault_27 kc_m1 28 rfl ?_
      exact x_iret dX11_fault_28 ⟨rfl, h⟩
    · have h := h.2 hc
      refine x_aload_n dX11_fault_17 rfl 18 rfl ?_
      refine gf11_4 dX11_fault_18 21 rfl hk_l0 kw2_152 ?_
      refine gf5_11 dX11_fault_21 24 rfl (ly11_4 hk_l0).1 kw2_107 ?_
      refine x_goto dX11_fault_24 28 rfl ?_
      exact x_iret dX11_fault_28 ⟨rfl, h⟩
  · have h := h.2 hc
    refine x_aload_n dX11_fault_4 rfl 5 rfl ?_
    refine gf11_4 dX11_fault_5 8 rfl hk_l0 kw2_152 ?_
    refine gf5_10 dX11_fault_8 11 rfl (ly11_4 hk_l0).1 kw2_105 ?_
    exact x_iret dX11_fault_11 ⟨rfl, h⟩
theorem cX11_fault_ {Q : Int32 → Prop} {l0 : Nat} {l1 : Int32} {M : Mem} (hk_l0 : SHk l0 = 11) (h : FX11_fault Q l0 l1 M) : xM yX11_fault cX11_fault 2 (some .int) 1 [.ref l0, .int l1] M (xQi (xP M Q)) := xM_of (by decide +kernel) (Nat.le_of_ble_eq_true rfl) (eX11_fault hk_l0 h)
theorem kX11_fault {own : String} {cc : ByteArray} {nL : Nat} {rt : Option FieldType} {d pc ix : Nat} {L : List (Nat × Value)} {st : List Value} {M : Mem} {Rt : xGt → Array Value → State → Outcome → State → Prop} {Q : Int32 → Prop} {l0 : Nat} {l1 : Int32} (hd : decode cc pc = .ok (.invokevirtual ix, 3)) (q : Nat) (hq : pc + 3 = q) (hk_l0 : SHk l0 = 11) (w1 : Cond.methodLink own ix yX11_fault ∈ xTs) (hr : 1 < d) (hst : (st.map fun v => v.category).sum ≤ 8) (h : FX11_fault Q l0 l1 M) (k : ∀ (r : Int32), Q r → xX own cc nL rt d q L (.int r :: st) M Rt) : xX own cc nL rt d pc L (.int l1 :: .ref l0 :: st) M Rt :=
  x_callV_i (n := 1) (As := [.int l1]) hd q hq hk_l0 (by decide) rfl rfl w1 kw4_153 kw4_154 kw1_1 kw4_155 (by decide +kernel) rfl hr (by decide) hst _ rfl (cX11_fault_ hk_l0 h) (fun r N hN => by obtain ⟨rfl, hN⟩ := hN; exact k r hN)
def NX11_of_48 (Q : Int32 → Mem → Prop) (l1 : Int32) (l2 : Int32) (l3 : Nat) (M : Mem) : Prop :=
  FX9_ofSaint (fun (r1 : Int32) => Q r1 M) l3 l1 l2 M
theorem nX11_of_48 {Q : Int32 → Mem → Prop} {l1 : Int32} {l2 : Int32} {l3 : Nat} {M : Mem} (hk_l3 : SHk l3 = 9) (h : NX11_of_48 Q l1 l2 l3 M) : xX RX11 cX11_of 4 (some .int) 5 48 [(1, .int l1), (2, .int l2), (3, .ref l3)] [] M (xQi Q) := by
  unfold NX11_of_48 at h
  refine x_aload_n dX11_of_48 rfl 49 rfl ?_
  refine x_iload_n dX11_of_49 rfl 50 rfl ?_
  refine x_iload_n dX11_of_50 rfl 51 rfl ?_
  refine kX9_ofSaint dX11_of_51 54 rfl hk_l3 kw4_162 (Nat.le_of_ble_eq_true rfl) (Nat.le_of_ble_eq_true rfl) h (fun r1 h => ?_)
  exact x_iret dX11_of_54 h
def FX11_of (Q : Int32 → Mem → Prop) (l0 : Nat) (l1 : Int32) (l2 : Int32) (M : Mem) : Prop :=
  FX9_isSaint (fun (r2 : Bool) => ((r2 = true → ((l2 < 7 → NX11_of_48 Q l1 l2 ((l0 + 1) + 1) M) ∧ (¬ l2 < 7 → ((9 < l2 → NX11_of_48 Q l1 l2 ((l0 + 1) + 1) M) ∧ (¬ 9 < l2 → FX2_tells (fun (r4 : Int32) (M3 : Mem) => Q r4 M3) ((l0 + 1) + 11) (l2 - 7) ((l0 + 1) + 1) l1 M))))) ∧ (r2 = false → Q (-100) M))) ((l0 + 1) + 1) l1 M
theorem eX11_of {Q : Int32 → Mem → Prop} {l0 : Nat} {l1 : Int32} {l2 : Int32} {M : Mem} (hk_l0 : SHk l0 = 11) (h : FX11_of Q l0 l1 l2 M) : xX RX11 cX11_of 4 (some .int) 5 0 [(0, .ref l0), (1, .int l1), (2, .int l2)] [] M (xQi Q) := by
  unfold FX11_of at h
  refine x_aload_n dX11_of_0 rfl 1 rfl ?_
  refine gf11_0 dX11_of_1 4 rfl hk_l0 kw2_148 ?_
  refine gf0_0 dX11_of_4 7 rfl (ly11_0 hk_l0).1 kw2_10 ?_
  refine x_astore_n dX11_of_7 (Nat.le_of_ble_eq_true rfl) [(0, .ref l0), (1, .int l1), (2, .int l2), (3, .ref ((l0 + 1) + 1))] rfl 8 rfl ?_
  refine x_aload_n dX11_of_8 rfl 9 rfl ?_
  refine x_iload_n dX11_of_9 rfl 10 rfl ?_
  refine kX9_isSaint dX11_of_10 13 rfl (ly0_0 (ly11_0 hk_l0).1).1 kw4_160 (Nat.le_of_ble_eq_true rfl) (Nat.le_of_ble_eq_true rfl) h (fun r2 h => ?_)
  refine x_if_ne_b dX11_of_13 19 16 rfl rfl (fun hc => ?_) (fun hc => ?_)
  · have h := h.1 hc
    refine x_iload_n dX11_of_19 rfl 20 rfl ?_
    refine x_bipush dX11_of_20 kb_7 22 rfl ?_
    refine x_icmp_lt dX11_of_22 48 25 rfl rfl (fun hc => ?_) (fun hc => ?_)
    · have h := h.1 hc
      refine x_weak [(1, .int l1), (2, .int l2), (3, .ref ((l0 + 1) + 1))] [1, 2, 3] rfl ?_
      exact nX11_of_48 (ly0_0 (ly11_0 hk_l0).1).1 h
    · have h := h.2 hc
      refine x_iload_n dX11_of_25 rfl 26 rfl ?_
      refine x_bipush dX11_of_26 kb_9 28 rfl ?_
      refine x_icmp_gt dX11_of_28 48 31 rfl rfl (fun hc => ?_) (fun hc => ?_)
      · have h := h.1 hc
        refine x_weak [(1, .int l1), (2, .int l2), (3, .ref ((l0 + 1) + 1))] [1, 2, 3] rfl ?_
        exact nX11_of_48 (ly0_0 (ly11_0 hk_l0).1).1 h
      · have h := h.2 hc
        refine x_aload_n dX11_of_31 rfl 32 rfl ?_
        refine gf11_0 dX11_of_32 35 rfl hk_l0 kw2_148 ?_
        refine gf0_1 dX11_of_35 38 rfl (ly11_0 hk_l0).1 kw2_12 ?_
        refine x_iload_n dX11_of_38 rfl 39 rfl ?_
        refine x_bipush dX11_of_39 kb_7 41 rfl ?_
        refine x_isub dX11_of_41 42 rfl ?_
        refine x_aload_n dX11_of_42 rfl 43 rfl ?_
        refine x_iload_n dX11_of_43 rfl 44 rfl ?_
        refine kX2_tells dX11_of_44 47 rfl (ly0_1 (ly11_0 hk_l0).1).1 (ly0_0 (ly11_0 hk_l0).1).1 kw4_161 (Nat.le_of_ble_eq_true rfl) (Nat.le_of_ble_eq_true rfl) h (fun r4 M3 h => ?_)
        exact x_iret dX11_of_47 h
  · have h := h.2 hc
    refine x_bipush dX11_of_16 kb_m100 18 rfl ?_
    exact x_iret dX11_of_18 h
theorem cX11_of_ {Q : Int32 → Mem → Prop} {l0 : Nat} {l1 : Int32} {l2 : Int32} {M : Mem} (hk_l0 : SHk l0 = 11) (h : FX11_of Q l0 l1 l2 M) : xM yX11_of cX11_of 4 (some .int) 5 [.ref l0, .int l1, .int l2] M (xQi Q) := xM_of (by decide +kernel) (Nat.le_of_ble_eq_true rfl) (eX11_of hk_l0 h)
theorem kX11_of {own : String} {cc : ByteArray} {nL : Nat} {rt : Option FieldType} {d pc ix : Nat} {L : List (Nat × Value)} {st : List Value} {M : Mem} {Rt : xGt → Array Value → State → Outcome → State → Prop} {Q : Int32 → Mem → Prop} {l0 : Nat} {l1 : Int32} {l2 : Int32} (hd : decode cc pc = .ok (.invokevirtual ix, 3)) (q : Nat) (hq : pc + 3 = q) (hk_l0 : SHk l0 = 11) (w1 : Cond.methodLink own ix yX11_of ∈ xTs) (hr : 5 < d) (hst : (st.map fun v => v.category).sum ≤ 8) (h : FX11_of Q l0 l1 l2 M) (k : ∀ (r : Int32) (N : Mem), Q r N → xX own cc nL rt d q L (.int r :: st) N Rt) : xX own cc nL rt d pc L (.int l2 :: .int l1 :: .ref l0 :: st) M Rt :=
  x_callV_i (n := 2) (As := [.int l1, .int l2]) hd q hq hk_l0 (by decide) rfl rfl w1 kw4_157 kw4_158 kw1_1 kw4_159 (by decide +kernel) rfl hr (by decide) hst _ rfl (cX11_of_ hk_l0 h) k
def FX11_at (Q : Int32 → Prop) (l0 : Nat) (l1 : Int32) (l2 : Int32) (M : Mem) : Prop :=
  FX9_isPillar (fun (r1 : Bool) => ((r1 = true → ((l2 = 0 → vp_in l1 10 ∧ Q (M (((l0 + 1) + 1) + 1) (ix l1))) ∧ (l2 = 1 → vp_in l1 10 ∧ Q (M (((l0 + 1) + 1) + 2) (ix l1))) ∧ (l2 = 2 → vp_in l1 10 ∧ Q (M (((l0 + 1) + 1) + 3) (ix l1))) ∧ (¬ l2 = 0 → ¬ l2 = 1 → ¬ l2 = 2 → Q (-200)))) ∧ (r1 = false → Q (-200)))) ((l0 + 1) + 1) l1 M
theorem eX11_at {Q : Int32 → Prop} {l0 : Nat} {l1 : Int32} {l2 : Int32} {M : Mem} (hk_l0 : SHk l0 = 11) (h : FX11_at Q l0 l1 l2 M) : xX RX11 cX11_at 4 (some .int) 2 0 [(0, .ref l0), (1, .int l1), (2, .int l2)] [] M (xQi (xP M Q)) := by
  unfold FX11_at at h
  refine x_aload_n dX11_at_0 rfl 1 rfl ?_
  refine gf11_0 dX11_at_1 4 rfl hk_l0 kw2_148 ?_
  refine gf0_0 dX11_at_4 7 rfl (ly11_0 hk_l0).1 kw2_10 ?_
  refine x_astore_n dX11_at_7 (Nat.le_of_ble_eq_true rfl) [(0, .ref l0), (1, .int l1), (2, .int l2), (3, .ref ((l0 + 1) + 1))] rfl 8 rfl ?_
  refine x_aload_n dX11_at_8 rfl 9 rfl ?_
  refine x_iload_n dX11_at_9 rfl 10 rfl ?_
  refine kX9_isPillar dX11_at_10 13 rfl (ly0_0 (ly11_0 hk_l0).1).1 kw4_170 (Nat.le_of_ble_eq_true rfl) (Nat.le_of_ble_eq_true rfl) h (fun r1 h => ?_)
  refine x_if_ne_b dX11_at_13 20 16 rfl rfl (fun hc => ?_) (fun hc => ?_)
  · have h := h.1 hc
    refine x_iload_n dX11_at_20 rfl 21 rfl ?_
    by_cases hc0 : l2 = 0
    · refine x_tab_at dX11_at_21 hc0 (by decide) (by decide) rfl (tg := 48) rfl ?_
      have h := h.1 hc0
      refine x_aload_n dX11_at_48 rfl 49 rfl ?_
      refine gf9_1 dX11_at_49 52 rfl (ly0_0 (ly11_0 hk_l0).1).1 kw1_48 ?_
      refine x_iload_n dX11_at_52 rfl 53 rfl ?_
      obtain ⟨hin, h⟩ := h
      refine x_iaload dX11_at_53 (ly9_1 (ly0_0 (ly11_0 hk_l0).1).1) hin 54 rfl ?_
      exact x_iret dX11_at_54 ⟨rfl, h⟩
    by_cases hc1 : l2 = 1
    · refine x_tab_at dX11_at_21 hc1 (by decide) (by decide) rfl (tg := 55) rfl ?_
      have h := h.2.1 hc1
      refine x_aload_n dX11_at_55 rfl 56 rfl ?_
      refine gf9_2 dX11_at_56 59 rfl (ly0_0 (ly11_0 hk_l0).1).1 kw1_51 ?_
      refine x_iload_n dX11_at_59 rfl 60 rfl ?_
      obtain ⟨hin, h⟩ := h
      refine x_iaload dX11_at_60 (ly9_2 (ly0_0 (ly11_0 hk_l0).1).1) hin 61 rfl ?_
      exact x_iret dX11_at_61 ⟨rfl, h⟩
    by_cases hc2 : l2 = 2
    · refine x_tab_at dX11_at_21 hc2 (by decide) (by decide) rfl (tg := 62) rfl ?_
      have h := h.2.2.1 hc2
      refine x_aload_n dX11_at_62 rfl 63 rfl ?_
      refine gf9_3 dX11_at_63 66 rfl (ly0_0 (ly11_0 hk_l0).1).1 kw1_54 ?_
      refine x_iload_n dX11_at_66 rfl 67 rfl ?_
      obtain ⟨hin, h⟩ := h
      refine x_iaload dX11_at_67 (ly9_3 (ly0_0 (ly11_0 hk_l0).1).1) hin 68 rfl ?_
      exact x_iret dX11_at_68 ⟨rfl, h⟩
    have h := h.2.2.2 hc0 hc1 hc2
    refine x_tab_out dX11_at_21 (by have a0 := lv_neT hc0 (a := 0) (by decide); have a1 := lv_neT hc1 (a := 1) (by decide); have a2 := lv_neT hc2 (a := 2) (by decide); show (l2 : Int32).toInt < 0 ∨ 2 < (l2 : Int32).toInt; omega) (tg := 69) rfl ?_
    refine x_sipush dX11_at_69 kh_m200 72 rfl ?_
    exact x_iret dX11_at_72 ⟨rfl, h⟩
  · have h := h.2 hc
    refine x_sipush dX11_at_16 kh_m200 19 rfl ?_
    exact x_iret dX11_at_19 ⟨rfl, h⟩
theorem cX11_at_ {Q : Int32 → Prop} {l0 : Nat} {l1 : Int32} {l2 : Int32} {M : Mem} (hk_l0 : SHk l0 = 11) (h : FX11_at Q l0 l1 l2 M) : xM yX11_at cX11_at 4 (some .int) 2 [.ref l0, .int l1, .int l2] M (xQi (xP M Q)) := xM_of (by decide +kernel) (Nat.le_of_ble_eq_true rfl) (eX11_at hk_l0 h)
theorem kX11_at {own : String} {cc : ByteArray} {nL : Nat} {rt : Option FieldType} {d pc ix : Nat} {L : List (Nat × Value)} {st : List Value} {M : Mem} {Rt : xGt → Array Value → State → Outcome → State → Prop} {Q : Int32 → Prop} {l0 : Nat} {l1 : Int32} {l2 : Int32} (hd : decode cc pc = .ok (.invokevirtual ix, 3)) (q : Nat) (hq : pc + 3 = q) (hk_l0 : SHk l0 = 11) (w1 : Cond.methodLink own ix yX11_at ∈ xTs) (hr : 2 < d) (hst : (st.map fun v => v.category).sum ≤ 8) (h : FX11_at Q l0 l1 l2 M) (k : ∀ (r : Int32), Q r → xX own cc nL rt d q L (.int r :: st) M Rt) : xX own cc nL rt d pc L (.int l2 :: .int l1 :: .ref l0 :: st) M Rt :=
  x_callV_i (n := 2) (As := [.int l1, .int l2]) hd q hq hk_l0 (by decide) rfl rfl w1 kw4_167 kw4_168 kw1_1 kw4_169 (by decide +kernel) rfl hr (by decide) hst _ rfl (cX11_at_ hk_l0 h) (fun r N hN => by obtain ⟨rfl, hN⟩ := hN; exact k r hN)
def FX11_sky (Q : Int32 → Prop) (l0 : Nat) (l1 : Int32) (M : Mem) : Prop :=
  FX6_weatherOn (fun (r1 : Int32) => Q r1) ((l0 + 1) + 18) l1 M
theorem eX11_sky {Q : Int32 → Prop} {l0 : Nat} {l1 : Int32} {M : Mem} (hk_l0 : SHk l0 = 11) (h : FX11_sky Q l0 l1 M) : xX RX11 cX11_sky 2 (some .int) 2 0 [(0, .ref l0), (1, .int l1)] [] M (xQi (xP M Q)) := by
  unfold FX11_sky at h
  refine x_aload_n dX11_sky_0 rfl 1 rfl ?_
  refine gf11_0 dX11_sky_1 4 rfl hk_l0 kw2_148 ?_
  refine gf0_2 dX11_sky_4 7 rfl (ly11_0 hk_l0).1 kw2_14 ?_
  refine x_iload_n dX11_sky_7 rfl 8 rfl ?_
  refine kX6_weatherOn dX11_sky_8 11 rfl (ly0_2 (ly11_0 hk_l0).1).1 kw4_175 (Nat.le_of_ble_eq_true rfl) (Nat.le_of_ble_eq_true rfl) h (fun r1 h => ?_)
  exact x_iret dX11_sky_11 ⟨rfl, h⟩
theorem cX11_sky_ {Q : Int32 → Prop} {l0 : Nat} {l1 : Int32} {M : Mem} (hk_l0 : SHk l0 = 11) (h : FX11_sky Q l0 l1 M) : xM yX11_sky cX11_sky 2 (some .int) 2 [.ref l0, .int l1] M (xQi (xP M Q)) := xM_of (by decide +kernel) (Nat.le_of_ble_eq_true rfl) (eX11_sky hk_l0 h)
theorem kX11_sky {own : String} {cc : ByteArray} {nL : Nat} {rt : Option FieldType} {d pc ix : Nat} {L : List (Nat × Value)} {st : List Value} {M : Mem} {Rt : xGt → Array Value → State → Outcome → State → Prop} {Q : Int32 → Prop} {l0 : Nat} {l1 : Int32} (hd : decode cc pc = .ok (.invokevirtual ix, 3)) (q : Nat) (hq : pc + 3 = q) (hk_l0 : SHk l0 = 11) (w1 : Cond.methodLink own ix yX11_sky ∈ xTs) (hr : 2 < d) (hst : (st.map fun v => v.category).sum ≤ 8) (h : FX11_sky Q l0 l1 M) (k : ∀ (r : Int32), Q r → xX own cc nL rt d q L (.int r :: st) M Rt) : xX own cc nL rt d pc L (.int l1 :: .ref l0 :: st) M Rt :=
  x_callV_i (n := 1) (As := [.int l1]) hd q hq hk_l0 (by decide) rfl rfl w1 kw4_172 kw4_173 kw1_1 kw4_174 (by decide +kernel) rfl hr (by decide) hst _ rfl (cX11_sky_ hk_l0 h) (fun r N hN => by obtain ⟨rfl, hN⟩ := hN; exact k r hN)
def FX11_book (Q : Int32 → Prop) (l0 : Nat) (l1 : Int32) (l2 : Int32) (M : Mem) : Prop :=
  ((l1 < 0 → Q (-100)) ∧ (¬ l1 < 0 → (((M ((l0 + 1) + 1) 18) ≤ l1 → Q (-100)) ∧ (¬ (M ((l0 + 1) + 1) 18) ≤ l1 → ((l2 < 0 → Q (-100)) ∧ (¬ l2 < 0 → ((l2 ≤ 3 → FX9_cell (fun (r1 : Int32) => Q r1) ((l0 + 1) + 1) l1 l2 M) ∧ (¬ l2 ≤ 3 → Q (-100)))))))))
theorem eX11_book {Q : Int32 → Prop} {l0 : Nat} {l1 : Int32} {l2 : Int32} {M : Mem} (hk_l0 : SHk l0 = 11) (h : FX11_book Q l0 l1 l2 M) : xX RX11 cX11_book 3 (some .int) 2 0 [(0, .ref l0), (1, .int l1), (2, .int l2)] [] M (xQi (xP M Q)) := by
  unfold FX11_book at h
  refine x_iload_n dX11_book_0 rfl 1 rfl ?_
  refine x_if_lt dX11_book_1 27 4 rfl rfl (fun hc => ?_) (fun hc => ?_)
  · have h := h.1 hc
    refine x_bipush dX11_book_27 kb_m100 29 rfl ?_
    exact x_iret dX11_book_29 ⟨rfl, h⟩
  · have h := h.2 hc
    refine x_iload_n dX11_book_4 rfl 5 rfl ?_
    refine x_aload_n dX11_book_5 rfl 6 rfl ?_
    refine gf11_0 dX11_book_6 9 rfl hk_l0 kw2_148 ?_
    refine gf0_0 dX11_book_9 12 rfl (ly11_0 hk_l0).1 kw2_10 ?_
    refine gf9_18 dX11_book_12 15 rfl (ly0_0 (ly11_0 hk_l0).1).1 kw1_96 ?_
    refine x_icmp_ge dX11_book_15 27 18 rfl rfl (fun hc => ?_) (fun hc => ?_)
    · have h := h.1 hc
      refine x_bipush dX11_book_27 kb_m100 29 rfl ?_
      exact x_iret dX11_book_29 ⟨rfl, h⟩
    · have h := h.2 hc
      refine x_iload_n dX11_book_18 rfl 19 rfl ?_
      refine x_if_lt dX11_book_19 27 22 rfl rfl (fun hc => ?_) (fun hc => ?_)
      · have h := h.1 hc
        refine x_bipush dX11_book_27 kb_m100 29 rfl ?_
        exact x_iret dX11_book_29 ⟨rfl, h⟩
      · have h := h.2 hc
        refine x_iload_n dX11_book_22 rfl 23 rfl ?_
        refine x_iconst dX11_book_23 kc_3 24 rfl ?_
        refine x_icmp_le dX11_book_24 30 27 rfl rfl (fun hc => ?_) (fun hc => ?_)
        · have h := h.1 hc
          refine x_aload_n dX11_book_30 rfl 31 rfl ?_
          refine gf11_0 dX11_book_31 34 rfl hk_l0 kw2_148 ?_
          refine gf0_0 dX11_book_34 37 rfl (ly11_0 hk_l0).1 kw2_10 ?_
          refine x_iload_n dX11_book_37 rfl 38 rfl ?_
          refine x_iload_n dX11_book_38 rfl 39 rfl ?_
          refine kX9_cell dX11_book_39 42 rfl (ly0_0 (ly11_0 hk_l0).1).1 kw4_180 (Nat.le_of_ble_eq_true rfl) (Nat.le_of_ble_eq_true rfl) h (fun r1 h => ?_)
          exact x_iret dX11_book_42 ⟨rfl, h⟩
        · have h := h.2 hc
          refine x_bipush dX11_book_27 kb_m100 29 rfl ?_
          exact x_iret dX11_book_29 ⟨rfl, h⟩
theorem cX11_book_ {Q : Int32 → Prop} {l0 : Nat} {l1 : Int32} {l2 : Int32} {M : Mem} (hk_l0 : SHk l0 = 11) (h : FX11_book Q l0 l1 l2 M) : xM yX11_book cX11_book 3 (some .int) 2 [.ref l0, .int l1, .int l2] M (xQi (xP M Q)) := xM_of (by decide +kernel) (Nat.le_of_ble_eq_true rfl) (eX11_book hk_l0 h)
theorem kX11_book {own : String} {cc : ByteArray} {nL : Nat} {rt : Option FieldType} {d pc ix : Nat} {L : List (Nat × Value)} {st : List Value} {M : Mem} {Rt : xGt → Array Value → State → Outcome → State → Prop} {Q : Int32 → Prop} {l0 : Nat} {l1 : Int32} {l2 : Int32} (hd : decode cc pc = .ok (.invokevirtual ix, 3)) (q : Nat) (hq : pc + 3 = q) (hk_l0 : SHk l0 = 11) (w1 : Cond.methodLink own ix yX11_book ∈ xTs) (hr : 2 < d) (hst : (st.map fun v => v.category).sum ≤ 8) (h : FX11_book Q l0 l1 l2 M) (k : ∀ (r : Int32), Q r → xX own cc nL rt d q L (.int r :: st) M Rt) : xX own cc nL rt d pc L (.int l2 :: .int l1 :: .ref l0 :: st) M Rt :=
  x_callV_i (n := 2) (As := [.int l1, .int l2]) hd q hq hk_l0 (by decide) rfl rfl w1 kw4_177 kw4_178 kw1_1 kw4_179 (by decide +kernel) rfl hr (by decide) hst _ rfl (cX11_book_ hk_l0 h) (fun r N hN => by obtain ⟨rfl, hN⟩ := hN; exact k r hN)
def lbX11_goes_39 (Q : Int32 → Mem → Prop) (l0 : Nat) (l1 : Int32) (l2 : Int32) (B39 : Int32 → Mem → Prop) (l3 : Int32) (M : Mem) : Prop :=
  ((l1 ≤ l3 → ((l2 = 0 → FJ6_bitCount_0f7a4 (fun (r1 : Int32) => Q r1 M) (M (l0 + 67) 12) M) ∧ (l2 = 1 → Q (M (l0 + 67) 16) M) ∧ (l2 = 2 → FX9_hungerOfLiving (fun (r2 : Int32) => Q r2 M) (l0 + 67) M) ∧ (¬ l2 = 0 → ¬ l2 = 1 → ¬ l2 = 2 → FX9_lastAdvice (fun (r3 : Int32) => Q r3 M) (l0 + 67) M))) ∧ (¬ l1 ≤ l3 → FX0_passDay (fun (r5 : Int32) (M4 : Mem) => B39 (l3 + 1) M4) (l0 + 1) (l0 + 67) 1 M))
def NX11_goes_39 (Q : Int32 → Mem → Prop) (l0 : Nat) (l1 : Int32) (l2 : Int32) (l3 : Int32) (M : Mem) : Prop := xlp (fun (B : Int32 × Mem → Prop) a => lbX11_goes_39 Q l0 l1 l2 (fun l3 M => B (l3, M)) a.1 a.2) (l3, M)
theorem nX11_goes_39 {Q : Int32 → Mem → Prop} {l0 : Nat} {l1 : Int32} {l2 : Int32} {l3 : Int32} {M : Mem} (hk_l0 : SHk l0 = 11) (h : NX11_goes_39 Q l0 l1 l2 l3 M) : xX RX11 cX11_goes 4 (some .int) 8 39 [(0, .ref l0), (1, .int l1), (2, .int l2), (3, .int l3)] [] M (xQi Q) := by
  obtain ⟨n, h⟩ := h
  have hB39 : ∀ (n : Nat) (l3 : Int32) (M : Mem), xlpn (fun (B : Int32 × Mem → Prop) a => lbX11_goes_39 Q l0 l1 l2 (fun l3 M => B (l3, M)) a.1 a.2) n (l3, M) → xX RX11 cX11_goes 4 (some .int) 8 39 [(0, .ref l0), (1, .int l1), (2, .int l2), (3, .int l3)] [] M (xQi Q) := by
    intro n
    induction n with
    | zero => intro l3 M h; exact False.elim h
    | succ n ih =>
      intro l3 M h
      have hB39 := ih
      have h : lbX11_goes_39 Q l0 l1 l2 (fun l3 M => xlpn (fun (B : Int32 × Mem → Prop) a => lbX11_goes_39 Q l0 l1 l2 (fun l3 M => B (l3, M)) a.1 a.2) n (l3, M)) l3 M := h
      unfold lbX11_goes_39 at h
      refine x_iload_n dX11_goes_39 rfl 40 rfl ?_
      refine x_iload_n dX11_goes_40 rfl 41 rfl ?_
      refine x_icmp_ge dX11_goes_41 63 44 rfl rfl (fun hc => ?_) (fun hc => ?_)
      · have h := h.1 hc
        refine x_iload_n dX11_goes_63 rfl 64 rfl ?_
        by_cases hc0 : l2 = 0
        · refine x_tab_at dX11_goes_64 hc0 (by decide) (by decide) rfl (tg := 92) rfl ?_
          have h := h.1 hc0
          refine x_aload_n dX11_goes_92 rfl 93 rfl ?_
          refine gf11_2 dX11_goes_93 96 rfl hk_l0 kw2_150 ?_
          refine gf9_12 dX11_goes_96 99 rfl (ly11_2 hk_l0).1 kw1_77 ?_
          refine kJ6_bitCount_0f7a4 dX11_goes_99 102 rfl kw4_189 (Nat.le_of_ble_eq_true rfl) (Nat.le_of_ble_eq_true rfl) h (fun r1 h => ?_)
          exact x_iret dX11_goes_102 h
        by_cases hc1 : l2 = 1
        · refine x_tab_at dX11_goes_64 hc1 (by decide) (by decide) rfl (tg := 103) rfl ?_
          have h := h.2.1 hc1
          refine x_aload_n dX11_goes_103 rfl 104 rfl ?_
          refine gf11_2 dX11_goes_104 107 rfl hk_l0 kw2_150 ?_
          refine gf9_16 dX11_goes_107 110 rfl (ly11_2 hk_l0).1 kw1_92 ?_
          exact x_iret dX11_goes_110 h
        by_cases hc2 : l2 = 2
        · refine x_tab_at dX11_goes_64 hc2 (by decide) (by decide) rfl (tg := 111) rfl ?_
          have h := h.2.2.1 hc2
          refine x_aload_n dX11_goes_111 rfl 112 rfl ?_
          refine gf11_2 dX11_goes_112 115 rfl hk_l0 kw2_150 ?_
          refine kX9_hungerOfLiving dX11_goes_115 118 rfl (ly11_2 hk_l0).1 kw4_195 (Nat.le_of_ble_eq_true rfl) (Nat.le_of_ble_eq_true rfl) h (fun r2 h => ?_)
          exact x_iret dX11_goes_118 h
        have h := h.2.2.2 hc0 hc1 hc2
        refine x_tab_out dX11_goes_64 (by have a0 := lv_neT hc0 (a := 0) (by decide); have a1 := lv_neT hc1 (a := 1) (by decide); have a2 := lv_neT hc2 (a := 2) (by decide); show (l2 : Int32).toInt < 0 ∨ 2 < (l2 : Int32).toInt; omega) (tg := 119) rfl ?_
        refine x_aload_n dX11_goes_119 rfl 120 rfl ?_
        refine gf11_2 dX11_goes_120 123 rfl hk_l0 kw2_150 ?_
        refine kX9_lastAdvice dX11_goes_123 126 rfl (ly11_2 hk_l0).1 kw4_199 (Nat.le_of_ble_eq_true rfl) (Nat.le_of_ble_eq_true rfl) h (fun r3 h => ?_)
        exact x_iret dX11_goes_126 h
      · have h := h.2 hc
        refine x_aload_n dX11_goes_44 rfl 45 rfl ?_
        refine gf11_0 dX11_goes_45 48 rfl hk_l0 kw2_148 ?_
        refine x_aload_n dX11_goes_48 rfl 49 rfl ?_
        refine gf11_2 dX11_goes_49 52 rfl hk_l0 kw2_150 ?_
        refine x_iconst dX11_goes_52 kc_1 53 rfl ?_
        refine kX0_passDay dX11_goes_53 56 rfl (ly11_0 hk_l0).1 (ly11_2 hk_l0).1 kw3_52 (Nat.le_of_ble_eq_true rfl) (Nat.le_of_ble_eq_true rfl) h (fun r5 M4 h => ?_)
        refine x_pop dX11_goes_56 rfl 57 rfl ?_
        refine x_iinc dX11_goes_57 rfl (congrArg (l3 + ·) kc_1) (Nat.le_of_ble_eq_true rfl) [(0, .ref l0), (1, .int l1), (2, .int l2), (3, .int (l3 + 1))] rfl 60 rfl ?_
        refine x_goto dX11_goes_60 39 rfl ?_
        exact hB39 _ _ h
  exact hB39 n l3 M h
def FX11_goes (Q : Int32 → Mem → Prop) (l0 : Nat) (l1 : Int32) (l2 : Int32) (M : Mem) : Prop :=
  ((l1 < 1 → Q (-100) M) ∧ (¬ l1 < 1 → ((60 < l1 → Q (-100) M) ∧ (¬ 60 < l1 → ((l2 < 0 → Q (-100) M) ∧ (¬ l2 < 0 → ((l2 ≤ 3 → FX9_copyFrom (fun (M6 : Mem) => NX11_goes_39 Q l0 l1 l2 0 M6) (l0 + 67) ((l0 + 1) + 1) M) ∧ (¬ l2 ≤ 3 → Q (-100) M))))))))
theorem eX11_goes {Q : Int32 → Mem → Prop} {l0 : Nat} {l1 : Int32} {l2 : Int32} {M : Mem} (hk_l0 : SHk l0 = 11) (h : FX11_goes Q l0 l1 l2 M) : xX RX11 cX11_goes 4 (some .int) 8 0 [(0, .ref l0), (1, .int l1), (2, .int l2)] [] M (xQi Q) := by
  unfold FX11_goes at h
  refine x_iload_n dX11_goes_0 rfl 1 rfl ?_
  refine x_iconst dX11_goes_1 kc_1 2 rfl ?_
  refine x_icmp_lt dX11_goes_2 20 5 rfl rfl (fun hc => ?_) (fun hc => ?_)
  · have h := h.1 hc
    refine x_bipush dX11_goes_20 kb_m100 22 rfl ?_
    exact x_iret dX11_goes_22 h
  · have h := h.2 hc
    refine x_iload_n dX11_goes_5 rfl 6 rfl ?_
    refine x_bipush dX11_goes_6 kb_60 8 rfl ?_
    refine x_icmp_gt dX11_goes_8 20 11 rfl rfl (fun hc => ?_) (fun hc => ?_)
    · have h := h.1 hc
      refine x_bipush dX11_goes_20 kb_m100 22 rfl ?_
      exact x_iret dX11_goes_22 h
    · have h := h.2 hc
      refine x_iload_n dX11_goes_11 rfl 12 rfl ?_
      refine x_if_lt dX11_goes_12 20 15 rfl rfl (fun hc => ?_) (fun hc => ?_)
      · have h := h.1 hc
        refine x_bipush dX11_goes_20 kb_m100 22 rfl ?_
        exact x_iret dX11_goes_22 h
      · have h := h.2 hc
        refine x_iload_n dX11_goes_15 rfl 16 rfl ?_
        refine x_iconst dX11_goes_16 kc_3 17 rfl ?_
        refine x_icmp_le dX11_goes_17 23 20 rfl rfl (fun hc => ?_) (fun hc => ?_)
        · have h := h.1 hc
          refine x_aload_n dX11_goes_23 rfl 24 rfl ?_
          refine gf11_2 dX11_goes_24 27 rfl hk_l0 kw2_150 ?_
          refine x_aload_n dX11_goes_27 rfl 28 rfl ?_
          refine gf11_0 dX11_goes_28 31 rfl hk_l0 kw2_148 ?_
          refine gf0_0 dX11_goes_31 34 rfl (ly11_0 hk_l0).1 kw2_10 ?_
          refine kX9_copyFrom dX11_goes_34 37 rfl (ly11_2 hk_l0).1 (ly0_0 (ly11_0 hk_l0).1).1 kw4_188 (Nat.le_of_ble_eq_true rfl) (Nat.le_of_ble_eq_true rfl) h (fun M6 h => ?_)
          refine x_iconst dX11_goes_37 kc_0 38 rfl ?_
          refine x_istore_n dX11_goes_38 (Nat.le_of_ble_eq_true rfl) [(0, .ref l0), (1, .int l1), (2, .int l2), (3, .int 0)] rfl 39 rfl ?_
          exact nX11_goes_39 hk_l0 h
        · have h := h.2 hc
          refine x_bipush dX11_goes_20 kb_m100 22 rfl ?_
          exact x_iret dX11_goes_22 h
theorem cX11_goes_ {Q : Int32 → Mem → Prop} {l0 : Nat} {l1 : Int32} {l2 : Int32} {M : Mem} (hk_l0 : SHk l0 = 11) (h : FX11_goes Q l0 l1 l2 M) : xM yX11_goes cX11_goes 4 (some .int) 8 [.ref l0, .int l1, .int l2] M (xQi Q) := xM_of (by decide +kernel) (Nat.le_of_ble_eq_true rfl) (eX11_goes hk_l0 h)
theorem kX11_goes {own : String} {cc : ByteArray} {nL : Nat} {rt : Option FieldType} {d pc ix : Nat} {L : List (Nat × Value)} {st : List Value} {M : Mem} {Rt : xGt → Array Value → State → Outcome → State → Prop} {Q : Int32 → Mem → Prop} {l0 : Nat} {l1 : Int32} {l2 : Int32} (hd : decode cc pc = .ok (.invokevirtual ix, 3)) (q : Nat) (hq : pc + 3 = q) (hk_l0 : SHk l0 = 11) (w1 : Cond.methodLink own ix yX11_goes ∈ xTs) (hr : 8 < d) (hst : (st.map fun v => v.category).sum ≤ 8) (h : FX11_goes Q l0 l1 l2 M) (k : ∀ (r : Int32) (N : Mem), Q r N → xX own cc nL rt d q L (.int r :: st) N Rt) : xX own cc nL rt d pc L (.int l2 :: .int l1 :: .ref l0 :: st) M Rt :=
  x_callV_i (n := 2) (As := [.int l1, .int l2]) hd q hq hk_l0 (by decide) rfl rfl w1 kw4_185 kw4_186 kw1_1 kw4_187 (by decide +kernel) rfl hr (by decide) hst _ rfl (cX11_goes_ hk_l0 h) k
def lbX11_loaves_12 (Q : Int32 → Mem → Prop) (l0 : Nat) (l1 : Nat) (B12 : Int32 → Int32 → Mem → Prop) (l2 : Int32) (l3 : Int32) (M : Mem) : Prop :=
  (((M l1 10) ≤ l3 → Q l2 M) ∧ (¬ (M l1 10) ≤ l3 → FX9_sitterOn (fun (r1 : Int32) => ((r1 = (-1) → B12 l2 (l3 + 1) M) ∧ (¬ r1 = (-1) → FX2_tells (fun (r3 : Int32) (M2 : Mem) => B12 (l2 + r3) (l3 + 1) M2) ((l0 + 1) + 11) 0 l1 r1 M))) l1 l3 M))
def NX11_loaves_12 (Q : Int32 → Mem → Prop) (l0 : Nat) (l1 : Nat) (l2 : Int32) (l3 : Int32) (M : Mem) : Prop := xlp (fun (B : Int32 × Int32 × Mem → Prop) a => lbX11_loaves_12 Q l0 l1 (fun l2 l3 M => B (l2, l3, M)) a.1 a.2.1 a.2.2) (l2, l3, M)
theorem nX11_loaves_12 {Q : Int32 → Mem → Prop} {l0 : Nat} {l1 : Nat} {l2 : Int32} {l3 : Int32} {M : Mem} (hk_l0 : SHk l0 = 11) (hk_l1 : SHk l1 = 9) (h : NX11_loaves_12 Q l0 l1 l2 l3 M) : xX RX11 cX11_loaves 5 (some .int) 5 12 [(0, .ref l0), (1, .ref l1), (2, .int l2), (3, .int l3)] [] M (xQi Q) := by
  obtain ⟨n, h⟩ := h
  have hB12 : ∀ (n : Nat) (l2 : Int32) (l3 : Int32) (M : Mem), xlpn (fun (B : Int32 × Int32 × Mem → Prop) a => lbX11_loaves_12 Q l0 l1 (fun l2 l3 M => B (l2, l3, M)) a.1 a.2.1 a.2.2) n (l2, l3, M) → xX RX11 cX11_loaves 5 (some .int) 5 12 [(0, .ref l0), (1, .ref l1), (2, .int l2), (3, .int l3)] [] M (xQi Q) := by
    intro n
    induction n with
    | zero => intro l2 l3 M h; exact False.elim h
    | succ n ih =>
      intro l2 l3 M h
      have hB12 := ih
      have h : lbX11_loaves_12 Q l0 l1 (fun l2 l3 M => xlpn (fun (B : Int32 × Int32 × Mem → Prop) a => lbX11_loaves_12 Q l0 l1 (fun l2 l3 M => B (l2, l3, M)) a.1 a.2.1 a.2.2) n (l2, l3, M)) l2 l3 M := h
      unfold lbX11_loaves_12 at h
      refine x_iload_n dX11_loaves_12 rfl 13 rfl ?_
      refine x_aload_n dX11_loaves_13 rfl 14 rfl ?_
      refine gf9_10 dX11_loaves_14 17 rfl hk_l1 kw1_69 ?_
      refine x_icmp_ge dX11_loaves_17 56 20 rfl rfl (fun hc => ?_) (fun hc => ?_)
      · have h := h.1 hc
        refine x_iload_n dX11_loaves_56 rfl 57 rfl ?_
        exact x_iret dX11_loaves_57 h
      · have h := h.2 hc
        refine x_aload_n dX11_loaves_20 rfl 21 rfl ?_
        refine x_iload_n dX11_loaves_21 rfl 22 rfl ?_
        refine kX9_sitterOn dX11_loaves_22 25 rfl hk_l1 kw4_207 (Nat.le_of_ble_eq_true rfl) (Nat.le_of_ble_eq_true rfl) h (fun r1 h => ?_)
        refine x_istore dX11_loaves_25 (Nat.le_of_ble_eq_true rfl) [(0, .ref l0), (1, .ref l1), (2, .int l2), (3, .int l3), (4, .int r1)] rfl 27 rfl ?_
        refine x_iload dX11_loaves_27 rfl 29 rfl ?_
        refine x_iconst dX11_loaves_29 kc_m1 30 rfl ?_
        refine x_icmp_eq dX11_loaves_30 50 33 rfl rfl (fun hc => ?_) (fun hc => ?_)
        · have h := h.1 hc
          refine x_iinc dX11_loaves_50 rfl (congrArg (l3 + ·) kc_1) (Nat.le_of_ble_eq_true rfl) [(0, .ref l0), (1, .ref l1), (2, .int l2), (3, .int (l3 + 1)), (4, .int r1)] rfl 53 rfl ?_
          refine x_goto dX11_loaves_53 12 rfl ?_
          refine x_weak [(0, .ref l0), (1, .ref l1), (2, .int l2), (3, .int (l3 + 1))] [0, 1, 2, 3] rfl ?_
          exact hB12 _ _ _ h
        · have h := h.2 hc
          refine x_iload_n dX11_loaves_33 rfl 34 rfl ?_
          refine x_aload_n dX11_loaves_34 rfl 35 rfl ?_
          refine gf11_0 dX11_loaves_35 38 rfl hk_l0 kw2_148 ?_
          refine gf0_1 dX11_loaves_38 41 rfl (ly11_0 hk_l0).1 kw2_12 ?_
          refine x_iconst dX11_loaves_41 kc_0 42 rfl ?_
          refine x_aload_n dX11_loaves_42 rfl 43 rfl ?_
          refine x_iload dX11_loaves_43 rfl 45 rfl ?_
          refine kX2_tells dX11_loaves_45 48 rfl (ly0_1 (ly11_0 hk_l0).1).1 hk_l1 kw4_161 (Nat.le_of_ble_eq_true rfl) (Nat.le_of_ble_eq_true rfl) h (fun r3 M2 h => ?_)
          refine x_iadd dX11_loaves_48 49 rfl ?_
          refine x_istore_n dX11_loaves_49 (Nat.le_of_ble_eq_true rfl) [(0, .ref l0), (1, .ref l1), (2, .int (l2 + r3)), (3, .int l3), (4, .int r1)] rfl 50 rfl ?_
          refine x_iinc dX11_loaves_50 rfl (congrArg (l3 + ·) kc_1) (Nat.le_of_ble_eq_true rfl) [(0, .ref l0), (1, .ref l1), (2, .int (l2 + r3)), (3, .int (l3 + 1)), (4, .int r1)] rfl 53 rfl ?_
          refine x_goto dX11_loaves_53 12 rfl ?_
          refine x_weak [(0, .ref l0), (1, .ref l1), (2, .int (l2 + r3)), (3, .int (l3 + 1))] [0, 1, 2, 3] rfl ?_
          exact hB12 _ _ _ h
  exact hB12 n l2 l3 M h
def FX11_loaves (Q : Int32 → Mem → Prop) (l0 : Nat) (M : Mem) : Prop :=
  NX11_loaves_12 Q l0 ((l0 + 1) + 1) 0 0 M
theorem eX11_loaves {Q : Int32 → Mem → Prop} {l0 : Nat} {M : Mem} (hk_l0 : SHk l0 = 11) (h : FX11_loaves Q l0 M) : xX RX11 cX11_loaves 5 (some .int) 5 0 [(0, .ref l0)] [] M (xQi Q) := by
  unfold FX11_loaves at h
  refine x_aload_n dX11_loaves_0 rfl 1 rfl ?_
  refine gf11_0 dX11_loaves_1 4 rfl hk_l0 kw2_148 ?_
  refine gf0_0 dX11_loaves_4 7 rfl (ly11_0 hk_l0).1 kw2_10 ?_
  refine x_astore_n dX11_loaves_7 (Nat.le_of_ble_eq_true rfl) [(0, .ref l0), (1, .ref ((l0 + 1) + 1))] rfl 8 rfl ?_
  refine x_iconst dX11_loaves_8 kc_0 9 rfl ?_
  refine x_istore_n dX11_loaves_9 (Nat.le_of_ble_eq_true rfl) [(0, .ref l0), (1, .ref ((l0 + 1) + 1)), (2, .int 0)] rfl 10 rfl ?_
  refine x_iconst dX11_loaves_10 kc_0 11 rfl ?_
  refine x_istore_n dX11_loaves_11 (Nat.le_of_ble_eq_true rfl) [(0, .ref l0), (1, .ref ((l0 + 1) + 1)), (2, .int 0), (3, .int 0)] rfl 12 rfl ?_
  exact nX11_loaves_12 hk_l0 (ly0_0 (ly11_0 hk_l0).1).1 h
theorem cX11_loaves_ {Q : Int32 → Mem → Prop} {l0 : Nat} {M : Mem} (hk_l0 : SHk l0 = 11) (h : FX11_loaves Q l0 M) : xM yX11_loaves cX11_loaves 5 (some .int) 5 [.ref l0] M (xQi Q) := xM_of (by decide +kernel) (Nat.le_of_ble_eq_true rfl) (eX11_loaves hk_l0 h)
theorem kX11_loaves {own : String} {cc : ByteArray} {nL : Nat} {rt : Option FieldType} {d pc ix : Nat} {L : List (Nat × Value)} {st : List Value} {M : Mem} {Rt : xGt → Array Value → State → Outcome → State → Prop} {Q : Int32 → Mem → Prop} {l0 : Nat} (hd : decode cc pc = .ok (.invokevirtual ix, 3)) (q : Nat) (hq : pc + 3 = q) (hk_l0 : SHk l0 = 11) (w1 : Cond.methodLink own ix yX11_loaves ∈ xTs) (hr : 5 < d) (hst : (st.map fun v => v.category).sum ≤ 8) (h : FX11_loaves Q l0 M) (k : ∀ (r : Int32) (N : Mem), Q r N → xX own cc nL rt d q L (.int r :: st) N Rt) : xX own cc nL rt d pc L (.ref l0 :: st) M Rt :=
  x_callV_i (n := 0) (As := []) hd q hq hk_l0 (by decide) rfl rfl w1 kw4_204 kw4_205 kw1_1 kw4_206 (by decide +kernel) rfl hr (by decide) hst _ rfl (cX11_loaves_ hk_l0 h) k
def lbX11_heir_28 (Q : Int32 → Mem → Prop) (l0 : Nat) (l1 : Int32) (B28 : Int32 → Mem → Prop) (l2 : Int32) (M : Mem) : Prop :=
  ((l1 ≤ l2 → FX9_highest (fun (r1 : Int32) => FX9_sitterOn (fun (r2 : Int32) => Q r2 M) (l0 + 67) r1 M) (l0 + 67) M) ∧ (¬ l1 ≤ l2 → FX9_highest (fun (r3 : Int32) => FX9_sitterOn (fun (r4 : Int32) => FX9_bury (fun (M5 : Mem) => FX9_climb (fun (M6 : Mem) => B28 (l2 + 1) M6) (l0 + 67) M5) (l0 + 67) r4 M) (l0 + 67) r3 M) (l0 + 67) M))
def NX11_heir_28 (Q : Int32 → Mem → Prop) (l0 : Nat) (l1 : Int32) (l2 : Int32) (M : Mem) : Prop := xlp (fun (B : Int32 × Mem → Prop) a => lbX11_heir_28 Q l0 l1 (fun l2 M => B (l2, M)) a.1 a.2) (l2, M)
theorem nX11_heir_28 {Q : Int32 → Mem → Prop} {l0 : Nat} {l1 : Int32} {l2 : Int32} {M : Mem} (hk_l0 : SHk l0 = 11) (h : NX11_heir_28 Q l0 l1 l2 M) : xX RX11 cX11_heir 3 (some .int) 4 28 [(0, .ref l0), (1, .int l1), (2, .int l2)] [] M (xQi Q) := by
  obtain ⟨n, h⟩ := h
  have hB28 : ∀ (n : Nat) (l2 : Int32) (M : Mem), xlpn (fun (B : Int32 × Mem → Prop) a => lbX11_heir_28 Q l0 l1 (fun l2 M => B (l2, M)) a.1 a.2) n (l2, M) → xX RX11 cX11_heir 3 (some .int) 4 28 [(0, .ref l0), (1, .int l1), (2, .int l2)] [] M (xQi Q) := by
    intro n
    induction n with
    | zero => intro l2 M h; exact False.elim h
    | succ n ih =>
      intro l2 M h
      have hB28 := ih
      have h : lbX11_heir_28 Q l0 l1 (fun l2 M => xlpn (fun (B : Int32 × Mem → Prop) a => lbX11_heir_28 Q l0 l1 (fun l2 M => B (l2, M)) a.1 a.2) n (l2, M)) l2 M := h
      unfold lbX11_heir_28 at h
      refine x_iload_n dX11_heir_28 rfl 29 rfl ?_
      refine x_iload_n dX11_heir_29 rfl 30 rfl ?_
      refine x_icmp_ge dX11_heir_30 67 33 rfl rfl (fun hc => ?_) (fun hc => ?_)
      · have h := h.1 hc
        refine x_aload_n dX11_heir_67 rfl 68 rfl ?_
        refine gf11_2 dX11_heir_68 71 rfl hk_l0 kw2_150 ?_
        refine x_aload_n dX11_heir_71 rfl 72 rfl ?_
        refine gf11_2 dX11_heir_72 75 rfl hk_l0 kw2_150 ?_
        refine kX9_highest dX11_heir_75 78 rfl (ly11_2 hk_l0).1 kw4_212 (Nat.le_of_ble_eq_true rfl) (Nat.le_of_ble_eq_true rfl) h (fun r1 h => ?_)
        refine kX9_sitterOn dX11_heir_78 81 rfl (ly11_2 hk_l0).1 kw4_207 (Nat.le_of_ble_eq_true rfl) (Nat.le_of_ble_eq_true rfl) h (fun r2 h => ?_)
        exact x_iret dX11_heir_81 h
      · have h := h.2 hc
        refine x_aload_n dX11_heir_33 rfl 34 rfl ?_
        refine gf11_2 dX11_heir_34 37 rfl hk_l0 kw2_150 ?_
        refine x_aload_n dX11_heir_37 rfl 38 rfl ?_
        refine gf11_2 dX11_heir_38 41 rfl hk_l0 kw2_150 ?_
        refine x_aload_n dX11_heir_41 rfl 42 rfl ?_
        refine gf11_2 dX11_heir_42 45 rfl hk_l0 kw2_150 ?_
        refine kX9_highest dX11_heir_45 48 rfl (ly11_2 hk_l0).1 kw4_212 (Nat.le_of_ble_eq_true rfl) (Nat.le_of_ble_eq_true rfl) h (fun r3 h => ?_)
        refine kX9_sitterOn dX11_heir_48 51 rfl (ly11_2 hk_l0).1 kw4_207 (Nat.le_of_ble_eq_true rfl) (Nat.le_of_ble_eq_true rfl) h (fun r4 h => ?_)
        refine kX9_bury dX11_heir_51 54 rfl (ly11_2 hk_l0).1 kw4_213 (Nat.le_of_ble_eq_true rfl) (Nat.le_of_ble_eq_true rfl) h (fun M5 h => ?_)
        refine x_aload_n dX11_heir_54 rfl 55 rfl ?_
        refine gf11_2 dX11_heir_55 58 rfl hk_l0 kw2_150 ?_
        refine kX9_climb dX11_heir_58 61 rfl (ly11_2 hk_l0).1 kw4_214 (Nat.le_of_ble_eq_true rfl) (Nat.le_of_ble_eq_true rfl) h (fun M6 h => ?_)
        refine x_iinc dX11_heir_61 rfl (congrArg (l2 + ·) kc_1) (Nat.le_of_ble_eq_true rfl) [(0, .ref l0), (1, .int l1), (2, .int (l2 + 1))] rfl 64 rfl ?_
        refine x_goto dX11_heir_64 28 rfl ?_
        exact hB28 _ _ h
  exact hB28 n l2 M h
def FX11_heir (Q : Int32 → Mem → Prop) (l0 : Nat) (l1 : Int32) (M : Mem) : Prop :=
  ((l1 < 0 → Q (-1) M) ∧ (¬ l1 < 0 → ((l1 < 14 → FX9_copyFrom (fun (M7 : Mem) => NX11_heir_28 Q l0 l1 0 M7) (l0 + 67) ((l0 + 1) + 1) M) ∧ (¬ l1 < 14 → Q (-1) M))))
theorem eX11_heir {Q : Int32 → Mem → Prop} {l0 : Nat} {l1 : Int32} {M : Mem} (hk_l0 : SHk l0 = 11) (h : FX11_heir Q l0 l1 M) : xX RX11 cX11_heir 3 (some .int) 4 0 [(0, .ref l0), (1, .int l1)] [] M (xQi Q) := by
  unfold FX11_heir at h
  refine x_iload_n dX11_heir_0 rfl 1 rfl ?_
  refine x_if_lt dX11_heir_1 10 4 rfl rfl (fun hc => ?_) (fun hc => ?_)
  · have h := h.1 hc
    refine x_iconst dX11_heir_10 kc_m1 11 rfl ?_
    exact x_iret dX11_heir_11 h
  · have h := h.2 hc
    refine x_iload_n dX11_heir_4 rfl 5 rfl ?_
    refine x_bipush dX11_heir_5 kb_14 7 rfl ?_
    refine x_icmp_lt dX11_heir_7 12 10 rfl rfl (fun hc => ?_) (fun hc => ?_)
    · have h := h.1 hc
      refine x_aload_n dX11_heir_12 rfl 13 rfl ?_
      refine gf11_2 dX11_heir_13 16 rfl hk_l0 kw2_150 ?_
      refine x_aload_n dX11_heir_16 rfl 17 rfl ?_
      refine gf11_0 dX11_heir_17 20 rfl hk_l0 kw2_148 ?_
      refine gf0_0 dX11_heir_20 23 rfl (ly11_0 hk_l0).1 kw2_10 ?_
      refine kX9_copyFrom dX11_heir_23 26 rfl (ly11_2 hk_l0).1 (ly0_0 (ly11_0 hk_l0).1).1 kw4_188 (Nat.le_of_ble_eq_true rfl) (Nat.le_of_ble_eq_true rfl) h (fun M7 h => ?_)
      refine x_iconst dX11_heir_26 kc_0 27 rfl ?_
      refine x_istore_n dX11_heir_27 (Nat.le_of_ble_eq_true rfl) [(0, .ref l0), (1, .int l1), (2, .int 0)] rfl 28 rfl ?_
      exact nX11_heir_28 hk_l0 h
    · have h := h.2 hc
      refine x_iconst dX11_heir_10 kc_m1 11 rfl ?_
      exact x_iret dX11_heir_11 h
theorem cX11_heir_ {Q : Int32 → Mem → Prop} {l0 : Nat} {l1 : Int32} {M : Mem} (hk_l0 : SHk l0 = 11) (h : FX11_heir Q l0 l1 M) : xM yX11_heir cX11_heir 3 (some .int) 4 [.ref l0, .int l1] M (xQi Q) := xM_of (by decide +kernel) (Nat.le_of_ble_eq_true rfl) (eX11_heir hk_l0 h)
theorem kX11_heir {own : String} {cc : ByteArray} {nL : Nat} {rt : Option FieldType} {d pc ix : Nat} {L : List (Nat × Value)} {st : List Value} {M : Mem} {Rt : xGt → Array Value → State → Outcome → State → Prop} {Q : Int32 → Mem → Prop} {l0 : Nat} {l1 : Int32} (hd : decode cc pc = .ok (.invokevirtual ix, 3)) (q : Nat) (hq : pc + 3 = q) (hk_l0 : SHk l0 = 11) (w1 : Cond.methodLink own ix yX11_heir ∈ xTs) (hr : 4 < d) (hst : (st.map fun v => v.category).sum ≤ 8) (h : FX11_heir Q l0 l1 M) (k : ∀ (r : Int32) (N : Mem), Q r N → xX own cc nL rt d q L (.int r :: st) N Rt) : xX own cc nL rt d pc L (.int l1 :: .ref l0 :: st) M Rt :=
  x_callV_i (n := 1) (As := [.int l1]) hd q hq hk_l0 (by decide) rfl rfl w1 kw4_209 kw4_210 kw1_1 kw4_211 (by decide +kernel) rfl hr (by decide) hst _ rfl (cX11_heir_ hk_l0 h) k
def lbX11_comes_51 (Q : Int32 → Mem → Prop) (l0 : Nat) (l2 : Int32) (l3 : Nat) (B51 : Int32 → Int32 → Mem → Prop) (l5 : Int32) (l6 : Int32) (M : Mem) : Prop :=
  ((l6 < l2 → Q l5 M) ∧ (¬ l6 < l2 → FX0_adviceAt (fun (r2 : Int32) (M1 : Mem) => B51 r2 (l6 + (-1)) M1) (l0 + 1) l3 l6 l5 M))
def NX11_comes_51 (Q : Int32 → Mem → Prop) (l0 : Nat) (l2 : Int32) (l3 : Nat) (l5 : Int32) (l6 : Int32) (M : Mem) : Prop := xlp (fun (B : Int32 × Int32 × Mem → Prop) a => lbX11_comes_51 Q l0 l2 l3 (fun l5 l6 M => B (l5, l6, M)) a.1 a.2.1 a.2.2) (l5, l6, M)
theorem nX11_comes_51 {Q : Int32 → Mem → Prop} {l0 : Nat} {l2 : Int32} {l3 : Nat} {l5 : Int32} {l6 : Int32} {M : Mem} (hk_l0 : SHk l0 = 11) (hk_l3 : SHk l3 = 9) (h : NX11_comes_51 Q l0 l2 l3 l5 l6 M) : xX RX11 cX11_comes 7 (some .int) 6 51 [(0, .ref l0), (2, .int l2), (3, .ref l3), (5, .int l5), (6, .int l6)] [] M (xQi Q) := by
  obtain ⟨n, h⟩ := h
  have hB51 : ∀ (n : Nat) (l5 : Int32) (l6 : Int32) (M : Mem), xlpn (fun (B : Int32 × Int32 × Mem → Prop) a => lbX11_comes_51 Q l0 l2 l3 (fun l5 l6 M => B (l5, l6, M)) a.1 a.2.1 a.2.2) n (l5, l6, M) → xX RX11 cX11_comes 7 (some .int) 6 51 [(0, .ref l0), (2, .int l2), (3, .ref l3), (5, .int l5), (6, .int l6)] [] M (xQi Q) := by
    intro n
    induction n with
    | zero => intro l5 l6 M h; exact False.elim h
    | succ n ih =>
      intro l5 l6 M h
      have hB51 := ih
      have h : lbX11_comes_51 Q l0 l2 l3 (fun l5 l6 M => xlpn (fun (B : Int32 × Int32 × Mem → Prop) a => lbX11_comes_51 Q l0 l2 l3 (fun l5 l6 M => B (l5, l6, M)) a.1 a.2.1 a.2.2) n (l5, l6, M)) l5 l6 M := h
      unfold lbX11_comes_51 at h
      refine x_iload dX11_comes_51 rfl 53 rfl ?_
      refine x_iload_n dX11_comes_53 rfl 54 rfl ?_
      refine x_icmp_lt dX11_comes_54 77 57 rfl rfl (fun hc => ?_) (fun hc => ?_)
      · have h := h.1 hc
        refine x_iload dX11_comes_77 rfl 79 rfl ?_
        exact x_iret dX11_comes_79 h
      · have h := h.2 hc
        refine x_aload_n dX11_comes_57 rfl 58 rfl ?_
        refine gf11_0 dX11_comes_58 61 rfl hk_l0 kw2_148 ?_
        refine x_aload_n dX11_comes_61 rfl 62 rfl ?_
        refine x_iload dX11_comes_62 rfl 64 rfl ?_
        refine x_iload dX11_comes_64 rfl 66 rfl ?_
        refine kX0_adviceAt dX11_comes_66 69 rfl (ly11_0 hk_l0).1 hk_l3 kw4_219 (Nat.le_of_ble_eq_true rfl) (Nat.le_of_ble_eq_true rfl) h (fun r2 M1 h => ?_)
        refine x_istore dX11_comes_69 (Nat.le_of_ble_eq_true rfl) [(0, .ref l0), (2, .int l2), (3, .ref l3), (5, .int r2), (6, .int l6)] rfl 71 rfl ?_
        refine x_iinc dX11_comes_71 rfl (congrArg (l6 + ·) kc_m1) (Nat.le_of_ble_eq_true rfl) [(0, .ref l0), (2, .int l2), (3, .ref l3), (5, .int r2), (6, .int (l6 + (-1)))] rfl 74 rfl ?_
        refine x_goto dX11_comes_74 51 rfl ?_
        exact hB51 _ _ _ h
  exact hB51 n l5 l6 M h
def FX11_comes (Q : Int32 → Mem → Prop) (l0 : Nat) (l1 : Int32) (l2 : Int32) (M : Mem) : Prop :=
  FX9_highest (fun (r3 : Int32) => FX11_within (fun (r4 : Bool) => ((r4 = false → Q (-100) M) ∧ (r4 = true → FX9_isPillar (fun (r5 : Bool) => ((r5 = false → Q (-100) M) ∧ (r5 = true → ((l2 ≤ r3 → NX11_comes_51 Q l0 l2 ((l0 + 1) + 1) l1 (r3 - 1) M) ∧ (¬ l2 ≤ r3 → Q (-100) M))))) ((l0 + 1) + 1) l2 M))) l1 (-99) 99 M) ((l0 + 1) + 1) M
theorem eX11_comes {Q : Int32 → Mem → Prop} {l0 : Nat} {l1 : Int32} {l2 : Int32} {M : Mem} (hk_l0 : SHk l0 = 11) (h : FX11_comes Q l0 l1 l2 M) : xX RX11 cX11_comes 7 (some .int) 6 0 [(0, .ref l0), (1, .int l1), (2, .int l2)] [] M (xQi Q) := by
  unfold FX11_comes at h
  refine x_aload_n dX11_comes_0 rfl 1 rfl ?_
  refine gf11_0 dX11_comes_1 4 rfl hk_l0 kw2_148 ?_
  refine gf0_0 dX11_comes_4 7 rfl (ly11_0 hk_l0).1 kw2_10 ?_
  refine x_astore_n dX11_comes_7 (Nat.le_of_ble_eq_true rfl) [(0, .ref l0), (1, .int l1), (2, .int l2), (3, .ref ((l0 + 1) + 1))] rfl 8 rfl ?_
  refine x_aload_n dX11_comes_8 rfl 9 rfl ?_
  refine kX9_highest dX11_comes_9 12 rfl (ly0_0 (ly11_0 hk_l0).1).1 kw4_212 (Nat.le_of_ble_eq_true rfl) (Nat.le_of_ble_eq_true rfl) h (fun r3 h => ?_)
  refine x_istore dX11_comes_12 (Nat.le_of_ble_eq_true rfl) [(0, .ref l0), (1, .int l1), (2, .int l2), (3, .ref ((l0 + 1) + 1)), (4, .int r3)] rfl 14 rfl ?_
  refine x_iload_n dX11_comes_14 rfl 15 rfl ?_
  refine x_bipush dX11_comes_15 kb_m99 17 rfl ?_
  refine x_bipush dX11_comes_17 kb_99 19 rfl ?_
  refine kX11_within dX11_comes_19 22 rfl kw2_213 (Nat.le_of_ble_eq_true rfl) (Nat.le_of_ble_eq_true rfl) h (fun r4 h => ?_)
  refine x_if_eq_b dX11_comes_22 39 25 rfl rfl (fun hc => ?_) (fun hc => ?_)
  · have h := h.1 hc
    refine x_bipush dX11_comes_39 kb_m100 41 rfl ?_
    exact x_iret dX11_comes_41 h
  · have h := h.2 hc
    refine x_aload_n dX11_comes_25 rfl 26 rfl ?_
    refine x_iload_n dX11_comes_26 rfl 27 rfl ?_
    refine kX9_isPillar dX11_comes_27 30 rfl (ly0_0 (ly11_0 hk_l0).1).1 kw4_170 (Nat.le_of_ble_eq_true rfl) (Nat.le_of_ble_eq_true rfl) h (fun r5 h => ?_)
    refine x_if_eq_b dX11_comes_30 39 33 rfl rfl (fun hc => ?_) (fun hc => ?_)
    · have h := h.1 hc
      refine x_bipush dX11_comes_39 kb_m100 41 rfl ?_
      exact x_iret dX11_comes_41 h
    · have h := h.2 hc
      refine x_iload_n dX11_comes_33 rfl 34 rfl ?_
      refine x_iload dX11_comes_34 rfl 36 rfl ?_
      refine x_icmp_le dX11_comes_36 42 39 rfl rfl (fun hc => ?_) (fun hc => ?_)
      · have h := h.1 hc
        refine x_iload_n dX11_comes_42 rfl 43 rfl ?_
        refine x_istore dX11_comes_43 (Nat.le_of_ble_eq_true rfl) [(0, .ref l0), (1, .int l1), (2, .int l2), (3, .ref ((l0 + 1) + 1)), (4, .int r3), (5, .int l1)] rfl 45 rfl ?_
        refine x_iload dX11_comes_45 rfl 47 rfl ?_
        refine x_iconst dX11_comes_47 kc_1 48 rfl ?_
        refine x_isub dX11_comes_48 49 rfl ?_
        refine x_istore dX11_comes_49 (Nat.le_of_ble_eq_true rfl) [(0, .ref l0), (1, .int l1), (2, .int l2), (3, .ref ((l0 + 1) + 1)), (4, .int r3), (5, .int l1), (6, .int (r3 - 1))] rfl 51 rfl ?_
        refine x_weak [(0, .ref l0), (2, .int l2), (3, .ref ((l0 + 1) + 1)), (5, .int l1), (6, .int (r3 - 1))] [0, 2, 3, 5, 6] rfl ?_
        exact nX11_comes_51 hk_l0 (ly0_0 (ly11_0 hk_l0).1).1 h
      · have h := h.2 hc
        refine x_bipush dX11_comes_39 kb_m100 41 rfl ?_
        exact x_iret dX11_comes_41 h
theorem cX11_comes_ {Q : Int32 → Mem → Prop} {l0 : Nat} {l1 : Int32} {l2 : Int32} {M : Mem} (hk_l0 : SHk l0 = 11) (h : FX11_comes Q l0 l1 l2 M) : xM yX11_comes cX11_comes 7 (some .int) 6 [.ref l0, .int l1, .int l2] M (xQi Q) := xM_of (by decide +kernel) (Nat.le_of_ble_eq_true rfl) (eX11_comes hk_l0 h)
theorem kX11_comes {own : String} {cc : ByteArray} {nL : Nat} {rt : Option FieldType} {d pc ix : Nat} {L : List (Nat × Value)} {st : List Value} {M : Mem} {Rt : xGt → Array Value → State → Outcome → State → Prop} {Q : Int32 → Mem → Prop} {l0 : Nat} {l1 : Int32} {l2 : Int32} (hd : decode cc pc = .ok (.invokevirtual ix, 3)) (q : Nat) (hq : pc + 3 = q) (hk_l0 : SHk l0 = 11) (w1 : Cond.methodLink own ix yX11_comes ∈ xTs) (hr : 6 < d) (hst : (st.map fun v => v.category).sum ≤ 8) (h : FX11_comes Q l0 l1 l2 M) (k : ∀ (r : Int32) (N : Mem), Q r N → xX own cc nL rt d q L (.int r :: st) N Rt) : xX own cc nL rt d pc L (.int l2 :: .int l1 :: .ref l0 :: st) M Rt :=
  x_callV_i (n := 2) (As := [.int l1, .int l2]) hd q hq hk_l0 (by decide) rfl rfl w1 kw4_216 kw4_217 kw1_1 kw4_218 (by decide +kernel) rfl hr (by decide) hst _ rfl (cX11_comes_ hk_l0 h) k
def NX11_scandal_78 (Q : Int32 → Prop) (B30 : Int32 → Int32 → Int32 → Prop) (l0 : Nat) (l1 : Int32) (l4 : Int32) (l5 : Int32) (l6 : Int32) (M : Mem) : Prop :=
  B30 l6 l5 (l5 + 1)
theorem nX11_scandal_78 {Q : Int32 → Prop} {B30 : Int32 → Int32 → Int32 → Prop} {l0 : Nat} {l1 : Int32} {l4 : Int32} {l5 : Int32} {l6 : Int32} {M : Mem} (hB30 : ∀ (l2 : Int32) (l3 : Int32) (l5 : Int32), B30 l2 l3 l5 → xX RX11 cX11_scandal 7 (some .int) 3 30 [(0, .ref l0), (1, .int l1), (2, .int l2), (3, .int l3), (4, .int l4), (5, .int l5)] [] M (xQi (xP M Q))) (hk_l0 : SHk l0 = 11) (h : NX11_scandal_78 Q B30 l0 l1 l4 l5 l6 M) : xX RX11 cX11_scandal 7 (some .int) 3 78 [(0, .ref l0), (1, .int l1), (4, .int l4), (5, .int l5), (6, .int l6)] [] M (xQi (xP M Q)) := by
  unfold NX11_scandal_78 at h
  refine x_iload dX11_scandal_78 rfl 80 rfl ?_
  refine x_istore_n dX11_scandal_80 (Nat.le_of_ble_eq_true rfl) [(0, .ref l0), (1, .int l1), (2, .int l6), (4, .int l4), (5, .int l5), (6, .int l6)] rfl 81 rfl ?_
  refine x_iload dX11_scandal_81 rfl 83 rfl ?_
  refine x_istore_n dX11_scandal_83 (Nat.le_of_ble_eq_true rfl) [(0, .ref l0), (1, .int l1), (2, .int l6), (3, .int l5), (4, .int l4), (5, .int l5), (6, .int l6)] rfl 84 rfl ?_
  refine x_iinc dX11_scandal_84 rfl (congrArg (l5 + ·) kc_1) (Nat.le_of_ble_eq_true rfl) [(0, .ref l0), (1, .int l1), (2, .int l6), (3, .int l5), (4, .int l4), (5, .int (l5 + 1)), (6, .int l6)] rfl 87 rfl ?_
  refine x_goto dX11_scandal_87 30 rfl ?_
  refine x_weak [(0, .ref l0), (1, .int l1), (2, .int l6), (3, .int l5), (4, .int l4), (5, .int (l5 + 1))] [0, 1, 2, 3, 4, 5] rfl ?_
  exact hB30 _ _ _ h
def lbX11_scandal_30 (Q : Int32 → Prop) (l0 : Nat) (l1 : Int32) (l4 : Int32) (M : Mem) (B30 : Int32 → Int32 → Int32 → Prop) (l2 : Int32) (l3 : Int32) (l5 : Int32) : Prop :=
  ((l4 ≤ l5 → ((¬ l1 = 0 → Q l2) ∧ (l1 = 0 → Q l3))) ∧ (¬ l4 ≤ l5 → FX9_spread (fun (r1 : Int32) => FX9_spread (fun (r2 : Int32) => ((l2 = (-1) → NX11_scandal_78 Q B30 l0 l1 l4 l5 (r1 + r2) M) ∧ (¬ l2 = (-1) → ((l2 ≤ (r1 + r2) → B30 l2 l3 (l5 + 1)) ∧ (¬ l2 ≤ (r1 + r2) → NX11_scandal_78 Q B30 l0 l1 l4 l5 (r1 + r2) M))))) ((l0 + 1) + 1) l5 l4 M) ((l0 + 1) + 1) 0 l5 M))
def NX11_scandal_30 (Q : Int32 → Prop) (l0 : Nat) (l1 : Int32) (l2 : Int32) (l3 : Int32) (l4 : Int32) (l5 : Int32) (M : Mem) : Prop := xlp (fun (B : Int32 × Int32 × Int32 → Prop) a => lbX11_scandal_30 Q l0 l1 l4 M (fun l2 l3 l5 => B (l2, l3, l5)) a.1 a.2.1 a.2.2) (l2, l3, l5)
theorem nX11_scandal_30 {Q : Int32 → Prop} {l0 : Nat} {l1 : Int32} {l2 : Int32} {l3 : Int32} {l4 : Int32} {l5 : Int32} {M : Mem} (hk_l0 : SHk l0 = 11) (h : NX11_scandal_30 Q l0 l1 l2 l3 l4 l5 M) : xX RX11 cX11_scandal 7 (some .int) 3 30 [(0, .ref l0), (1, .int l1), (2, .int l2), (3, .int l3), (4, .int l4), (5, .int l5)] [] M (xQi (xP M Q)) := by
  obtain ⟨n, h⟩ := h
  have hB30 : ∀ (n : Nat) (l2 : Int32) (l3 : Int32) (l5 : Int32), xlpn (fun (B : Int32 × Int32 × Int32 → Prop) a => lbX11_scandal_30 Q l0 l1 l4 M (fun l2 l3 l5 => B (l2, l3, l5)) a.1 a.2.1 a.2.2) n (l2, l3, l5) → xX RX11 cX11_scandal 7 (some .int) 3 30 [(0, .ref l0), (1, .int l1), (2, .int l2), (3, .int l3), (4, .int l4), (5, .int l5)] [] M (xQi (xP M Q)) := by
    intro n
    induction n with
    | zero => intro l2 l3 l5 h; exact False.elim h
    | succ n ih =>
      intro l2 l3 l5 h
      have hB30 := ih
      have h : lbX11_scandal_30 Q l0 l1 l4 M (fun l2 l3 l5 => xlpn (fun (B : Int32 × Int32 × Int32 → Prop) a => lbX11_scandal_30 Q l0 l1 l4 M (fun l2 l3 l5 => B (l2, l3, l5)) a.1 a.2.1 a.2.2) n (l2, l3, l5)) l2 l3 l5 := h
      unfold lbX11_scandal_30 at h
      refine x_iload dX11_scandal_30 rfl 32 rfl ?_
      refine x_iload dX11_scandal_32 rfl 34 rfl ?_
      refine x_icmp_ge dX11_scandal_34 90 37 rfl rfl (fun hc => ?_) (fun hc => ?_)
      · have h := h.1 hc
        refine x_iload_n dX11_scandal_90 rfl 91 rfl ?_
        refine x_if_ne dX11_scandal_91 98 94 rfl rfl (fun hc => ?_) (fun hc => ?_)
        · have h := h.1 hc
          refine x_iload_n dX11_scandal_98 rfl 99 rfl ?_
          exact x_iret dX11_scandal_99 ⟨rfl, h⟩
        · have h := h.2 hc
          refine x_iload_n dX11_scandal_94 rfl 95 rfl ?_
          refine x_goto dX11_scandal_95 99 rfl ?_
          exact x_iret dX11_scandal_99 ⟨rfl, h⟩
      · have h := h.2 hc
        refine x_aload_n dX11_scandal_37 rfl 38 rfl ?_
        refine gf11_0 dX11_scandal_38 41 rfl hk_l0 kw2_148 ?_
        refine gf0_0 dX11_scandal_41 44 rfl (ly11_0 hk_l0).1 kw2_10 ?_
        refine x_iconst dX11_scandal_44 kc_0 45 rfl ?_
        refine x_iload dX11_scandal_45 rfl 47 rfl ?_
        refine kX9_spread dX11_scandal_47 50 rfl (ly0_0 (ly11_0 hk_l0).1).1 kw4_228 (Nat.le_of_ble_eq_true rfl) (Nat.le_of_ble_eq_true rfl) h (fun r1 h => ?_)
        refine x_aload_n dX11_scandal_50 rfl 51 rfl ?_
        refine gf11_0 dX11_scandal_51 54 rfl hk_l0 kw2_148 ?_
        refine gf0_0 dX11_scandal_54 57 rfl (ly11_0 hk_l0).1 kw2_10 ?_
        refine x_iload dX11_scandal_57 rfl 59 rfl ?_
        refine x_iload dX11_scandal_59 rfl 61 rfl ?_
        refine kX9_spread dX11_scandal_61 64 rfl (ly0_0 (ly11_0 hk_l0).1).1 kw4_228 (Nat.le_of_ble_eq_true rfl) (Nat.le_of_ble_eq_true rfl) h (fun r2 h => ?_)
        refine x_iadd dX11_scandal_64 65 rfl ?_
        refine x_istore dX11_scandal_65 (Nat.le_of_ble_eq_true rfl) [(0, .ref l0), (1, .int l1), (2, .int l2), (3, .int l3), (4, .int l4), (5, .int l5), (6, .int (r1 + r2))] rfl 67 rfl ?_
        refine x_iload_n dX11_scandal_67 rfl 68 rfl ?_
        refine x_iconst dX11_scandal_68 kc_m1 69 rfl ?_
        refine x_icmp_eq dX11_scandal_69 78 72 rfl rfl (fun hc => ?_) (fun hc => ?_)
        · have h := h.1 hc
          refine x_weak [(0, .ref l0), (1, .int l1), (4, .int l4), (5, .int l5), (6, .int (r1 + r2))] [0, 1, 4, 5, 6] rfl ?_
          exact nX11_scandal_78 hB30 hk_l0 h
        · have h := h.2 hc
          refine x_iload dX11_scandal_72 rfl 74 rfl ?_
          refine x_iload_n dX11_scandal_74 rfl 75 rfl ?_
          refine x_icmp_ge dX11_scandal_75 84 78 rfl rfl (fun hc => ?_) (fun hc => ?_)
          · have h := h.1 hc
            refine x_iinc dX11_scandal_84 rfl (congrArg (l5 + ·) kc_1) (Nat.le_of_ble_eq_true rfl) [(0, .ref l0), (1, .int l1), (2, .int l2), (3, .int l3), (4, .int l4), (5, .int (l5 + 1)), (6, .int (r1 + r2))] rfl 87 rfl ?_
            refine x_goto dX11_scandal_87 30 rfl ?_
            refine x_weak [(0, .ref l0), (1, .int l1), (2, .int l2), (3, .int l3), (4, .int l4), (5, .int (l5 + 1))] [0, 1, 2, 3, 4, 5] rfl ?_
            exact hB30 _ _ _ h
          · have h := h.2 hc
            refine x_weak [(0, .ref l0), (1, .int l1), (4, .int l4), (5, .int l5), (6, .int (r1 + r2))] [0, 1, 4, 5, 6] rfl ?_
            exact nX11_scandal_78 hB30 hk_l0 h
  exact hB30 n l2 l3 l5 h
def NX11_scandal_11 (Q : Int32 → Prop) (l0 : Nat) (l1 : Int32) (M : Mem) : Prop :=
  FX9_sitting (fun (r3 : Int32) => NX11_scandal_30 Q l0 l1 (-1) (-1) r3 1 M) ((l0 + 1) + 1) M
theorem nX11_scandal_11 {Q : Int32 → Prop} {l0 : Nat} {l1 : Int32} {M : Mem} (hk_l0 : SHk l0 = 11) (h : NX11_scandal_11 Q l0 l1 M) : xX RX11 cX11_scandal 7 (some .int) 3 11 [(0, .ref l0), (1, .int l1)] [] M (xQi (xP M Q)) := by
  unfold NX11_scandal_11 at h
  refine x_iconst dX11_scandal_11 kc_m1 12 rfl ?_
  refine x_istore_n dX11_scandal_12 (Nat.le_of_ble_eq_true rfl) [(0, .ref l0), (1, .int l1), (2, .int (-1))] rfl 13 rfl ?_
  refine x_iconst dX11_scandal_13 kc_m1 14 rfl ?_
  refine x_istore_n dX11_scandal_14 (Nat.le_of_ble_eq_true rfl) [(0, .ref l0), (1, .int l1), (2, .int (-1)), (3, .int (-1))] rfl 15 rfl ?_
  refine x_aload_n dX11_scandal_15 rfl 16 rfl ?_
  refine gf11_0 dX11_scandal_16 19 rfl hk_l0 kw2_148 ?_
  refine gf0_0 dX11_scandal_19 22 rfl (ly11_0 hk_l0).1 kw2_10 ?_
  refine kX9_sitting dX11_scandal_22 25 rfl (ly0_0 (ly11_0 hk_l0).1).1 kw4_224 (Nat.le_of_ble_eq_true rfl) (Nat.le_of_ble_eq_true rfl) h (fun r3 h => ?_)
  refine x_istore dX11_scandal_25 (Nat.le_of_ble_eq_true rfl) [(0, .ref l0), (1, .int l1), (2, .int (-1)), (3, .int (-1)), (4, .int r3)] rfl 27 rfl ?_
  refine x_iconst dX11_scandal_27 kc_1 28 rfl ?_
  refine x_istore dX11_scandal_28 (Nat.le_of_ble_eq_true rfl) [(0, .ref l0), (1, .int l1), (2, .int (-1)), (3, .int (-1)), (4, .int r3), (5, .int 1)] rfl 30 rfl ?_
  exact nX11_scandal_30 hk_l0 h
def FX11_scandal (Q : Int32 → Prop) (l0 : Nat) (l1 : Int32) (M : Mem) : Prop :=
  ((l1 = 0 → NX11_scandal_11 Q l0 l1 M) ∧ (¬ l1 = 0 → ((l1 = 1 → NX11_scandal_11 Q l0 l1 M) ∧ (¬ l1 = 1 → Q (-1)))))
theorem eX11_scandal {Q : Int32 → Prop} {l0 : Nat} {l1 : Int32} {M : Mem} (hk_l0 : SHk l0 = 11) (h : FX11_scandal Q l0 l1 M) : xX RX11 cX11_scandal 7 (some .int) 3 0 [(0, .ref l0), (1, .int l1)] [] M (xQi (xP M Q)) := by
  unfold FX11_scandal at h
  refine x_iload_n dX11_scandal_0 rfl 1 rfl ?_
  refine x_if_eq dX11_scandal_1 11 4 rfl rfl (fun hc => ?_) (fun hc => ?_)
  · have h := h.1 hc
    exact nX11_scandal_11 hk_l0 h
  · have h := h.2 hc
    refine x_iload_n dX11_scandal_4 rfl 5 rfl ?_
    refine x_iconst dX11_scandal_5 kc_1 6 rfl ?_
    refine x_icmp_eq dX11_scandal_6 11 9 rfl rfl (fun hc => ?_) (fun hc => ?_)
    · have h := h.1 hc
      exact nX11_scandal_11 hk_l0 h
    · have h := h.2 hc
      refine x_iconst dX11_scandal_9 kc_m1 10 rfl ?_
      exact x_iret dX11_scandal_10 ⟨rfl, h⟩
theorem cX11_scandal_ {Q : Int32 → Prop} {l0 : Nat} {l1 : Int32} {M : Mem} (hk_l0 : SHk l0 = 11) (h : FX11_scandal Q l0 l1 M) : xM yX11_scandal cX11_scandal 7 (some .int) 3 [.ref l0, .int l1] M (xQi (xP M Q)) := xM_of (by decide +kernel) (Nat.le_of_ble_eq_true rfl) (eX11_scandal hk_l0 h)
theorem kX11_scandal {own : String} {cc : ByteArray} {nL : Nat} {rt : Option FieldType} {d pc ix : Nat} {L : List (Nat × Value)} {st : List Value} {M : Mem} {Rt : xGt → Array Value → State → Outcome → State → Prop} {Q : Int32 → Prop} {l0 : Nat} {l1 : Int32} (hd : decode cc pc = .ok (.invokevirtual ix, 3)) (q : Nat) (hq : pc + 3 = q) (hk_l0 : SHk l0 = 11) (w1 : Cond.methodLink own ix yX11_scandal ∈ xTs) (hr : 3 < d) (hst : (st.map fun v => v.category).sum ≤ 8) (h : FX11_scandal Q l0 l1 M) (k : ∀ (r : Int32), Q r → xX own cc nL rt d q L (.int r :: st) M Rt) : xX own cc nL rt d pc L (.int l1 :: .ref l0 :: st) M Rt :=
  x_callV_i (n := 1) (As := [.int l1]) hd q hq hk_l0 (by decide) rfl rfl w1 kw4_221 kw4_222 kw1_1 kw4_223 (by decide +kernel) rfl hr (by decide) hst _ rfl (cX11_scandal_ hk_l0 h) (fun r N hN => by obtain ⟨rfl, hN⟩ := hN; exact k r hN)
def NX11_middle_58 (Q : Int32 → Prop) (B18 : Int32 → Int32 → Int32 → Prop) (l0 : Nat) (l1 : Int32) (l4 : Int32) (l5 : Int32) (M : Mem) : Prop :=
  B18 l5 l4 (l4 + 1)
theorem nX11_middle_58 {Q : Int32 → Prop} {B18 : Int32 → Int32 → Int32 → Prop} {l0 : Nat} {l1 : Int32} {l4 : Int32} {l5 : Int32} {M : Mem} (hB18 : ∀ (l2 : Int32) (l3 : Int32) (l4 : Int32), B18 l2 l3 l4 → xX RX11 cX11_middle 6 (some .int) 3 18 [(0, .ref l0), (1, .int l1), (2, .int l2), (3, .int l3), (4, .int l4)] [] M (xQi (xP M Q))) (hk_l0 : SHk l0 = 11) (h : NX11_middle_58 Q B18 l0 l1 l4 l5 M) : xX RX11 cX11_middle 6 (some .int) 3 58 [(0, .ref l0), (1, .int l1), (4, .int l4), (5, .int l5)] [] M (xQi (xP M Q)) := by
  unfold NX11_middle_58 at h
  refine x_iload dX11_middle_58 rfl 60 rfl ?_
  refine x_istore_n dX11_middle_60 (Nat.le_of_ble_eq_true rfl) [(0, .ref l0), (1, .int l1), (2, .int l5), (4, .int l4), (5, .int l5)] rfl 61 rfl ?_
  refine x_iload dX11_middle_61 rfl 63 rfl ?_
  refine x_istore_n dX11_middle_63 (Nat.le_of_ble_eq_true rfl) [(0, .ref l0), (1, .int l1), (2, .int l5), (3, .int l4), (4, .int l4), (5, .int l5)] rfl 64 rfl ?_
  refine x_iinc dX11_middle_64 rfl (congrArg (l4 + ·) kc_1) (Nat.le_of_ble_eq_true rfl) [(0, .ref l0), (1, .int l1), (2, .int l5), (3, .int l4), (4, .int (l4 + 1)), (5, .int l5)] rfl 67 rfl ?_
  refine x_goto dX11_middle_67 18 rfl ?_
  refine x_weak [(0, .ref l0), (1, .int l1), (2, .int l5), (3, .int l4), (4, .int (l4 + 1))] [0, 1, 2, 3, 4] rfl ?_
  exact hB18 _ _ _ h
def lbX11_middle_18 (Q : Int32 → Prop) (l0 : Nat) (l1 : Int32) (M : Mem) (B18 : Int32 → Int32 → Int32 → Prop) (l2 : Int32) (l3 : Int32) (l4 : Int32) : Prop :=
  (((M ((l0 + 1) + 1) 10) ≤ l4 → ((¬ l1 = 0 → Q l2) ∧ (l1 = 0 → Q l3))) ∧ (¬ (M ((l0 + 1) + 1) 10) ≤ l4 → FX9_wayTo (fun (r1 : Int32) => ((l2 = (-1) → NX11_middle_58 Q B18 l0 l1 l4 r1 M) ∧ (¬ l2 = (-1) → ((l2 ≤ r1 → B18 l2 l3 (l4 + 1)) ∧ (¬ l2 ≤ r1 → NX11_middle_58 Q B18 l0 l1 l4 r1 M))))) ((l0 + 1) + 1) l4 M))
def NX11_middle_18 (Q : Int32 → Prop) (l0 : Nat) (l1 : Int32) (l2 : Int32) (l3 : Int32) (l4 : Int32) (M : Mem) : Prop := xlp (fun (B : Int32 × Int32 × Int32 → Prop) a => lbX11_middle_18 Q l0 l1 M (fun l2 l3 l4 => B (l2, l3, l4)) a.1 a.2.1 a.2.2) (l2, l3, l4)
theorem nX11_middle_18 {Q : Int32 → Prop} {l0 : Nat} {l1 : Int32} {l2 : Int32} {l3 : Int32} {l4 : Int32} {M : Mem} (hk_l0 : SHk l0 = 11) (h : NX11_middle_18 Q l0 l1 l2 l3 l4 M) : xX RX11 cX11_middle 6 (some .int) 3 18 [(0, .ref l0), (1, .int l1), (2, .int l2), (3, .int l3), (4, .int l4)] [] M (xQi (xP M Q)) := by
  obtain ⟨n, h⟩ := h
  have hB18 : ∀ (n : Nat) (l2 : Int32) (l3 : Int32) (l4 : Int32), xlpn (fun (B : Int32 × Int32 × Int32 → Prop) a => lbX11_middle_18 Q l0 l1 M (fun l2 l3 l4 => B (l2, l3, l4)) a.1 a.2.1 a.2.2) n (l2, l3, l4) → xX RX11 cX11_middle 6 (some .int) 3 18 [(0, .ref l0), (1, .int l1), (2, .int l2), (3, .int l3), (4, .int l4)] [] M (xQi (xP M Q)) := by
    intro n
    induction n with
    | zero => intro l2 l3 l4 h; exact False.elim h
    | succ n ih =>
      intro l2 l3 l4 h
      have hB18 := ih
      have h : lbX11_middle_18 Q l0 l1 M (fun l2 l3 l4 => xlpn (fun (B : Int32 × Int32 × Int32 → Prop) a => lbX11_middle_18 Q l0 l1 M (fun l2 l3 l4 => B (l2, l3, l4)) a.1 a.2.1 a.2.2) n (l2, l3, l4)) l2 l3 l4 := h
      unfold lbX11_middle_18 at h
      refine x_iload dX11_middle_18 rfl 20 rfl ?_
      refine x_aload_n dX11_middle_20 rfl 21 rfl ?_
      refine gf11_0 dX11_middle_21 24 rfl hk_l0 kw2_148 ?_
      refine gf0_0 dX11_middle_24 27 rfl (ly11_0 hk_l0).1 kw2_10 ?_
      refine gf9_10 dX11_middle_27 30 rfl (ly0_0 (ly11_0 hk_l0).1).1 kw1_69 ?_
      refine x_icmp_ge dX11_middle_30 70 33 rfl rfl (fun hc => ?_) (fun hc => ?_)
      · have h := h.1 hc
        refine x_iload_n dX11_middle_70 rfl 71 rfl ?_
        refine x_if_ne dX11_middle_71 78 74 rfl rfl (fun hc => ?_) (fun hc => ?_)
        · have h := h.1 hc
          refine x_iload_n dX11_middle_78 rfl 79 rfl ?_
          exact x_iret dX11_middle_79 ⟨rfl, h⟩
        · have h := h.2 hc
          refine x_iload_n dX11_middle_74 rfl 75 rfl ?_
          refine x_goto dX11_middle_75 79 rfl ?_
          exact x_iret dX11_middle_79 ⟨rfl, h⟩
      · have h := h.2 hc
        refine x_aload_n dX11_middle_33 rfl 34 rfl ?_
        refine gf11_0 dX11_middle_34 37 rfl hk_l0 kw2_148 ?_
        refine gf0_0 dX11_middle_37 40 rfl (ly11_0 hk_l0).1 kw2_10 ?_
        refine x_iload dX11_middle_40 rfl 42 rfl ?_
        refine kX9_wayTo dX11_middle_42 45 rfl (ly0_0 (ly11_0 hk_l0).1).1 kw4_236 (Nat.le_of_ble_eq_true rfl) (Nat.le_of_ble_eq_true rfl) h (fun r1 h => ?_)
        refine x_istore dX11_middle_45 (Nat.le_of_ble_eq_true rfl) [(0, .ref l0), (1, .int l1), (2, .int l2), (3, .int l3), (4, .int l4), (5, .int r1)] rfl 47 rfl ?_
        refine x_iload_n dX11_middle_47 rfl 48 rfl ?_
        refine x_iconst dX11_middle_48 kc_m1 49 rfl ?_
        refine x_icmp_eq dX11_middle_49 58 52 rfl rfl (fun hc => ?_) (fun hc => ?_)
        · have h := h.1 hc
          refine x_weak [(0, .ref l0), (1, .int l1), (4, .int l4), (5, .int r1)] [0, 1, 4, 5] rfl ?_
          exact nX11_middle_58 hB18 hk_l0 h
        · have h := h.2 hc
          refine x_iload dX11_middle_52 rfl 54 rfl ?_
          refine x_iload_n dX11_middle_54 rfl 55 rfl ?_
          refine x_icmp_ge dX11_middle_55 64 58 rfl rfl (fun hc => ?_) (fun hc => ?_)
          · have h := h.1 hc
            refine x_iinc dX11_middle_64 rfl (congrArg (l4 + ·) kc_1) (Nat.le_of_ble_eq_true rfl) [(0, .ref l0), (1, .int l1), (2, .int l2), (3, .int l3), (4, .int (l4 + 1)), (5, .int r1)] rfl 67 rfl ?_
            refine x_goto dX11_middle_67 18 rfl ?_
            refine x_weak [(0, .ref l0), (1, .int l1), (2, .int l2), (3, .int l3), (4, .int (l4 + 1))] [0, 1, 2, 3, 4] rfl ?_
            exact hB18 _ _ _ h
          · have h := h.2 hc
            refine x_weak [(0, .ref l0), (1, .int l1), (4, .int l4), (5, .int r1)] [0, 1, 4, 5] rfl ?_
            exact nX11_middle_58 hB18 hk_l0 h
  exact hB18 n l2 l3 l4 h
def NX11_middle_11 (Q : Int32 → Prop) (l0 : Nat) (l1 : Int32) (M : Mem) : Prop :=
  NX11_middle_18 Q l0 l1 (-1) (-1) 0 M
theorem nX11_middle_11 {Q : Int32 → Prop} {l0 : Nat} {l1 : Int32} {M : Mem} (hk_l0 : SHk l0 = 11) (h : NX11_middle_11 Q l0 l1 M) : xX RX11 cX11_middle 6 (some .int) 3 11 [(0, .ref l0), (1, .int l1)] [] M (xQi (xP M Q)) := by
  unfold NX11_middle_11 at h
  refine x_iconst dX11_middle_11 kc_m1 12 rfl ?_
  refine x_istore_n dX11_middle_12 (Nat.le_of_ble_eq_true rfl) [(0, .ref l0), (1, .int l1), (2, .int (-1))] rfl 13 rfl ?_
  refine x_iconst dX11_middle_13 kc_m1 14 rfl ?_
  refine x_istore_n dX11_middle_14 (Nat.le_of_ble_eq_true rfl) [(0, .ref l0), (1, .int l1), (2, .int (-1)), (3, .int (-1))] rfl 15 rfl ?_
  refine x_iconst dX11_middle_15 kc_0 16 rfl ?_
  refine x_istore dX11_middle_16 (Nat.le_of_ble_eq_true rfl) [(0, .ref l0), (1, .int l1), (2, .int (-1)), (3, .int (-1)), (4, .int 0)] rfl 18 rfl ?_
  exact nX11_middle_18 hk_l0 h
def FX11_middle (Q : Int32 → Prop) (l0 : Nat) (l1 : Int32) (M : Mem) : Prop :=
  ((l1 = 0 → NX11_middle_11 Q l0 l1 M) ∧ (¬ l1 = 0 → ((l1 = 1 → NX11_middle_11 Q l0 l1 M) ∧ (¬ l1 = 1 → Q (-1)))))
theorem eX11_middle {Q : Int32 → Prop} {l0 : Nat} {l1 : Int32} {M : Mem} (hk_l0 : SHk l0 = 11) (h : FX11_middle Q l0 l1 M) : xX RX11 cX11_middle 6 (some .int) 3 0 [(0, .ref l0), (1, .int l1)] [] M (xQi (xP M Q)) := by
  unfold FX11_middle at h
  refine x_iload_n dX11_middle_0 rfl 1 rfl ?_
  refine x_if_eq dX11_middle_1 11 4 rfl rfl (fun hc => ?_) (fun hc => ?_)
  · have h := h.1 hc
    exact nX11_middle_11 hk_l0 h
  · have h := h.2 hc
    refine x_iload_n dX11_middle_4 rfl 5 rfl ?_
    refine x_iconst dX11_middle_5 kc_1 6 rfl ?_
    refine x_icmp_eq dX11_middle_6 11 9 rfl rfl (fun hc => ?_) (fun hc => ?_)
    · have h := h.1 hc
      exact nX11_middle_11 hk_l0 h
    · have h := h.2 hc
      refine x_iconst dX11_middle_9 kc_m1 10 rfl ?_
      exact x_iret dX11_middle_10 ⟨rfl, h⟩
theorem cX11_middle_ {Q : Int32 → Prop} {l0 : Nat} {l1 : Int32} {M : Mem} (hk_l0 : SHk l0 = 11) (h : FX11_middle Q l0 l1 M) : xM yX11_middle cX11_middle 6 (some .int) 3 [.ref l0, .int l1] M (xQi (xP M Q)) := xM_of (by decide +kernel) (Nat.le_of_ble_eq_true rfl) (eX11_middle hk_l0 h)
theorem kX11_middle {own : String} {cc : ByteArray} {nL : Nat} {rt : Option FieldType} {d pc ix : Nat} {L : List (Nat × Value)} {st : List Value} {M : Mem} {Rt : xGt → Array Value → State → Outcome → State → Prop} {Q : Int32 → Prop} {l0 : Nat} {l1 : Int32} (hd : decode cc pc = .ok (.invokevirtual ix, 3)) (q : Nat) (hq : pc + 3 = q) (hk_l0 : SHk l0 = 11) (w1 : Cond.methodLink own ix yX11_middle ∈ xTs) (hr : 3 < d) (hst : (st.map fun v => v.category).sum ≤ 8) (h : FX11_middle Q l0 l1 M) (k : ∀ (r : Int32), Q r → xX own cc nL rt d q L (.int r :: st) M Rt) : xX own cc nL rt d pc L (.int l1 :: .ref l0 :: st) M Rt :=
  x_callV_i (n := 1) (As := [.int l1]) hd q hq hk_l0 (by decide) rfl rfl w1 kw4_233 kw4_234 kw1_1 kw4_235 (by decide +kernel) rfl hr (by decide) hst _ rfl (cX11_middle_ hk_l0 h) (fun r N hN => by obtain ⟨rfl, hN⟩ := hN; exact k r hN)
def FX11_follows (Q : Int32 → Prop) (l0 : Nat) (l1 : Int32) (M : Mem) : Prop :=
  ((l1 < 0 → Q (-1)) ∧ (¬ l1 < 0 → ((l1 < 65536 → FX7_closure (fun (r1 : Int32) => Q r1) ((l0 + 1) + 26) l1 (-1) M) ∧ (¬ l1 < 65536 → Q (-1)))))
theorem eX11_follows {Q : Int32 → Prop} {l0 : Nat} {l1 : Int32} {M : Mem} (hk_l0 : SHk l0 = 11) (h : FX11_follows Q l0 l1 M) : xX RX11 cX11_follows 2 (some .int) 2 0 [(0, .ref l0), (1, .int l1)] [] M (xQi (xP M Q)) := by
  unfold FX11_follows at h
  refine x_iload_n dX11_follows_0 rfl 1 rfl ?_
  refine x_if_lt dX11_follows_1 10 4 rfl rfl (fun hc => ?_) (fun hc => ?_)
  · have h := h.1 hc
    refine x_iconst dX11_follows_10 kc_m1 11 rfl ?_
    exact x_iret dX11_follows_11 ⟨rfl, h⟩
  · have h := h.2 hc
    refine x_iload_n dX11_follows_4 rfl 5 rfl ?_
    refine x_ldc dX11_follows_5 kw5_7 7 rfl ?_
    refine x_icmp_lt dX11_follows_7 12 10 rfl rfl (fun hc => ?_) (fun hc => ?_)
    · have h := h.1 hc
      refine x_aload_n dX11_follows_12 rfl 13 rfl ?_
      refine gf11_0 dX11_follows_13 16 rfl hk_l0 kw2_148 ?_
      refine gf0_4 dX11_follows_16 19 rfl (ly11_0 hk_l0).1 kw2_18 ?_
      refine x_iload_n dX11_follows_19 rfl 20 rfl ?_
      refine x_iconst dX11_follows_20 kc_m1 21 rfl ?_
      refine kX7_closure dX11_follows_21 24 rfl (ly0_4 (ly11_0 hk_l0).1).1 kw5_8 (Nat.le_of_ble_eq_true rfl) (Nat.le_of_ble_eq_true rfl) h (fun r1 h => ?_)
      exact x_iret dX11_follows_24 ⟨rfl, h⟩
    · have h := h.2 hc
      refine x_iconst dX11_follows_10 kc_m1 11 rfl ?_
      exact x_iret dX11_follows_11 ⟨rfl, h⟩
theorem cX11_follows_ {Q : Int32 → Prop} {l0 : Nat} {l1 : Int32} {M : Mem} (hk_l0 : SHk l0 = 11) (h : FX11_follows Q l0 l1 M) : xM yX11_follows cX11_follows 2 (some .int) 2 [.ref l0, .int l1] M (xQi (xP M Q)) := xM_of (by decide +kernel) (Nat.le_of_ble_eq_true rfl) (eX11_follows hk_l0 h)
theorem kX11_follows {own : String} {cc : ByteArray} {nL : Nat} {rt : Option FieldType} {d pc ix : Nat} {L : List (Nat × Value)} {st : List Value} {M : Mem} {Rt : xGt → Array Value → State → Outcome → State → Prop} {Q : Int32 → Prop} {l0 : Nat} {l1 : Int32} (hd : decode cc pc = .ok (.invokevirtual ix, 3)) (q : Nat) (hq : pc + 3 = q) (hk_l0 : SHk l0 = 11) (w1 : Cond.methodLink own ix yX11_follows ∈ xTs) (hr : 2 < d) (hst : (st.map fun v => v.category).sum ≤ 8) (h : FX11_follows Q l0 l1 M) (k : ∀ (r : Int32), Q r → xX own cc nL rt d q L (.int r :: st) M Rt) : xX own cc nL rt d pc L (.int l1 :: .ref l0 :: st) M Rt :=
  x_callV_i (n := 1) (As := [.int l1]) hd q hq hk_l0 (by decide) rfl rfl w1 kw5_4 kw5_5 kw1_1 kw5_6 (by decide +kernel) rfl hr (by decide) hst _ rfl (cX11_follows_ hk_l0 h) (fun r N hN => by obtain ⟨rfl, hN⟩ := hN; exact k r hN)
def FX11_gives (Q : Int32 → Prop) (l0 : Nat) (l1 : Int32) (l2 : Int32) (M : Mem) : Prop :=
  ((¬ l2 = 2 → ((l1 < 0 → Q (-1)) ∧ (¬ l1 < 0 → ((16 ≤ l1 → Q (-1)) ∧ (¬ 16 ≤ l1 → ((l2 < 0 → Q (-1)) ∧ (¬ l2 < 0 → ((l2 ≤ 2 → FX7_fewestFor (fun (r1 : Int32) => ((¬ r1 = 0 → ((¬ l2 = 0 → Q r1) ∧ (l2 = 0 → FJ6_bitCount_0f7a4 (fun (r2 : Int32) => Q r2) r1 M))) ∧ (r1 = 0 → Q (-1)))) ((l0 + 1) + 26) l1 M) ∧ (¬ l2 ≤ 2 → Q (-1)))))))))) ∧ (l2 = 2 → FX7_idle (fun (r3 : Int32) => Q r3) ((l0 + 1) + 26) M))
theorem eX11_gives {Q : Int32 → Prop} {l0 : Nat} {l1 : Int32} {l2 : Int32} {M : Mem} (hk_l0 : SHk l0 = 11) (h : FX11_gives Q l0 l1 l2 M) : xX RX11 cX11_gives 4 (some .int) 4 0 [(0, .ref l0), (1, .int l1), (2, .int l2)] [] M (xQi (xP M Q)) := by
  unfold FX11_gives at h
  refine x_iload_n dX11_gives_0 rfl 1 rfl ?_
  refine x_iconst dX11_gives_1 kc_2 2 rfl ?_
  refine x_icmp_ne dX11_gives_2 16 5 rfl rfl (fun hc => ?_) (fun hc => ?_)
  · have h := h.1 hc
    refine x_iload_n dX11_gives_16 rfl 17 rfl ?_
    refine x_if_lt dX11_gives_17 35 20 rfl rfl (fun hc => ?_) (fun hc => ?_)
    · have h := h.1 hc
      refine x_iconst dX11_gives_35 kc_m1 36 rfl ?_
      exact x_iret dX11_gives_36 ⟨rfl, h⟩
    · have h := h.2 hc
      refine x_iload_n dX11_gives_20 rfl 21 rfl ?_
      refine x_bipush dX11_gives_21 kb_16 23 rfl ?_
      refine x_icmp_ge dX11_gives_23 35 26 rfl rfl (fun hc => ?_) (fun hc => ?_)
      · have h := h.1 hc
        refine x_iconst dX11_gives_35 kc_m1 36 rfl ?_
        exact x_iret dX11_gives_36 ⟨rfl, h⟩
      · have h := h.2 hc
        refine x_iload_n dX11_gives_26 rfl 27 rfl ?_
        refine x_if_lt dX11_gives_27 35 30 rfl rfl (fun hc => ?_) (fun hc => ?_)
        · have h := h.1 hc
          refine x_iconst dX11_gives_35 kc_m1 36 rfl ?_
          exact x_iret dX11_gives_36 ⟨rfl, h⟩
        · have h := h.2 hc
          refine x_iload_n dX11_gives_30 rfl 31 rfl ?_
          refine x_iconst dX11_gives_31 kc_2 32 rfl ?_
          refine x_icmp_le dX11_gives_32 37 35 rfl rfl (fun hc => ?_) (fun hc => ?_)
          · have h := h.1 hc
            refine x_aload_n dX11_gives_37 rfl 38 rfl ?_
            refine gf11_0 dX11_gives_38 41 rfl hk_l0 kw2_148 ?_
            refine gf0_4 dX11_gives_41 44 rfl (ly11_0 hk_l0).1 kw2_18 ?_
            refine x_iload_n dX11_gives_44 rfl 45 rfl ?_
            refine kX7_fewestFor dX11_gives_45 48 rfl (ly0_4 (ly11_0 hk_l0).1).1 kw5_21 (Nat.le_of_ble_eq_true rfl) (Nat.le_of_ble_eq_true rfl) h (fun r1 h => ?_)
            refine x_istore_n dX11_gives_48 (Nat.le_of_ble_eq_true rfl) [(0, .ref l0), (1, .int l1), (2, .int l2), (3, .int r1)] rfl 49 rfl ?_
            refine x_iload_n dX11_gives_49 rfl 50 rfl ?_
            refine x_if_ne dX11_gives_50 55 53 rfl rfl (fun hc => ?_) (fun hc => ?_)
            · have h := h.1 hc
              refine x_iload_n dX11_gives_55 rfl 56 rfl ?_
              refine x_if_ne dX11_gives_56 66 59 rfl rfl (fun hc => ?_) (fun hc => ?_)
              · have h := h.1 hc
                refine x_iload_n dX11_gives_66 rfl 67 rfl ?_
                exact x_iret dX11_gives_67 ⟨rfl, h⟩
              · have h := h.2 hc
                refine x_iload_n dX11_gives_59 rfl 60 rfl ?_
                refine kJ6_bitCount_0f7a4 dX11_gives_60 63 rfl kw4_189 (Nat.le_of_ble_eq_true rfl) (Nat.le_of_ble_eq_true rfl) h (fun r2 h => ?_)
                refine x_goto dX11_gives_63 67 rfl ?_
                exact x_iret dX11_gives_67 ⟨rfl, h⟩
            · have h := h.2 hc
              refine x_iconst dX11_gives_53 kc_m1 54 rfl ?_
              exact x_iret dX11_gives_54 ⟨rfl, h⟩
          · have h := h.2 hc
            refine x_iconst dX11_gives_35 kc_m1 36 rfl ?_
            exact x_iret dX11_gives_36 ⟨rfl, h⟩
  · have h := h.2 hc
    refine x_aload_n dX11_gives_5 rfl 6 rfl ?_
    refine gf11_0 dX11_gives_6 9 rfl hk_l0 kw2_148 ?_
    refine gf0_4 dX11_gives_9 12 rfl (ly11_0 hk_l0).1 kw2_18 ?_
    refine kX7_idle dX11_gives_12 15 rfl (ly0_4 (ly11_0 hk_l0).1).1 kw5_16 (Nat.le_of_ble_eq_true rfl) (Nat.le_of_ble_eq_true rfl) h (fun r3 h => ?_)
    exact x_iret dX11_gives_15 ⟨rfl, h⟩
theorem cX11_gives_ {Q : Int32 → Prop} {l0 : Nat} {l1 : Int32} {l2 : Int32} {M : Mem} (hk_l0 : SHk l0 = 11) (h : FX11_gives Q l0 l1 l2 M) : xM yX11_gives cX11_gives 4 (some .int) 4 [.ref l0, .int l1, .int l2] M (xQi (xP M Q)) := xM_of (by decide +kernel) (Nat.le_of_ble_eq_true rfl) (eX11_gives hk_l0 h)
theorem kX11_gives {own : String} {cc : ByteArray} {nL : Nat} {rt : Option FieldType} {d pc ix : Nat} {L : List (Nat × Value)} {st : List Value} {M : Mem} {Rt : xGt → Array Value → State → Outcome → State → Prop} {Q : Int32 → Prop} {l0 : Nat} {l1 : Int32} {l2 : Int32} (hd : decode cc pc = .ok (.invokevirtual ix, 3)) (q : Nat) (hq : pc + 3 = q) (hk_l0 : SHk l0 = 11) (w1 : Cond.methodLink own ix yX11_gives ∈ xTs) (hr : 4 < d) (hst : (st.map fun v => v.category).sum ≤ 8) (h : FX11_gives Q l0 l1 l2 M) (k : ∀ (r : Int32), Q r → xX own cc nL rt d q L (.int r :: st) M Rt) : xX own cc nL rt d pc L (.int l2 :: .int l1 :: .ref l0 :: st) M Rt :=
  x_callV_i (n := 2) (As := [.int l1, .int l2]) hd q hq hk_l0 (by decide) rfl rfl w1 kw5_13 kw5_14 kw1_1 kw5_15 (by decide +kernel) rfl hr (by decide) hst _ rfl (cX11_gives_ hk_l0 h) (fun r N hN => by obtain ⟨rfl, hN⟩ := hN; exact k r hN)
def FX11_seen (Q : Int32 → Prop) (l0 : Nat) (l1 : Int32) (M : Mem) : Prop :=
  ((l1 = 0 → FX9_seenFrom (fun (r1 : Int32) => Q r1) ((l0 + 1) + 1) 0 M) ∧ (l1 = 1 → FX9_seenFrom (fun (r2 : Int32) => Q r2) ((l0 + 1) + 1) 1 M) ∧ (l1 = 2 → FX9_storks (fun (r3 : Int32) => Q r3) ((l0 + 1) + 1) M) ∧ (¬ l1 = 0 → ¬ l1 = 1 → ¬ l1 = 2 → Q (-1)))
theorem eX11_seen {Q : Int32 → Prop} {l0 : Nat} {l1 : Int32} {M : Mem} (hk_l0 : SHk l0 = 11) (h : FX11_seen Q l0 l1 M) : xX RX11 cX11_seen 2 (some .int) 2 0 [(0, .ref l0), (1, .int l1)] [] M (xQi (xP M Q)) := by
  unfold FX11_seen at h
  refine x_iload_n dX11_seen_0 rfl 1 rfl ?_
  by_cases hc0 : l1 = 0
  · refine x_tab_at dX11_seen_1 hc0 (by decide) (by decide) rfl (tg := 28) rfl ?_
    have h := h.1 hc0
    refine x_aload_n dX11_seen_28 rfl 29 rfl ?_
    refine gf11_0 dX11_seen_29 32 rfl hk_l0 kw2_148 ?_
    refine gf0_0 dX11_seen_32 35 rfl (ly11_0 hk_l0).1 kw2_10 ?_
    refine x_iconst dX11_seen_35 kc_0 36 rfl ?_
    refine kX9_seenFrom dX11_seen_36 39 rfl (ly0_0 (ly11_0 hk_l0).1).1 kw5_39 (Nat.le_of_ble_eq_true rfl) (Nat.le_of_ble_eq_true rfl) h (fun r1 h => ?_)
    exact x_iret dX11_seen_39 ⟨rfl, h⟩
  by_cases hc1 : l1 = 1
  · refine x_tab_at dX11_seen_1 hc1 (by decide) (by decide) rfl (tg := 40) rfl ?_
    have h := h.2.1 hc1
    refine x_aload_n dX11_seen_40 rfl 41 rfl ?_
    refine gf11_0 dX11_seen_41 44 rfl hk_l0 kw2_148 ?_
    refine gf0_0 dX11_seen_44 47 rfl (ly11_0 hk_l0).1 kw2_10 ?_
    refine x_iconst dX11_seen_47 kc_1 48 rfl ?_
    refine kX9_seenFrom dX11_seen_48 51 rfl (ly0_0 (ly11_0 hk_l0).1).1 kw5_39 (Nat.le_of_ble_eq_true rfl) (Nat.le_of_ble_eq_true rfl) h (fun r2 h => ?_)
    exact x_iret dX11_seen_51 ⟨rfl, h⟩
  by_cases hc2 : l1 = 2
  · refine x_tab_at dX11_seen_1 hc2 (by decide) (by decide) rfl (tg := 52) rfl ?_
    have h := h.2.2.1 hc2
    refine x_aload_n dX11_seen_52 rfl 53 rfl ?_
    refine gf11_0 dX11_seen_53 56 rfl hk_l0 kw2_148 ?_
    refine gf0_0 dX11_seen_56 59 rfl (ly11_0 hk_l0).1 kw2_10 ?_
    refine kX9_storks dX11_seen_59 62 rfl (ly0_0 (ly11_0 hk_l0).1).1 kw5_43 (Nat.le_of_ble_eq_true rfl) (Nat.le_of_ble_eq_true rfl) h (fun r3 h => ?_)
    exact x_iret dX11_seen_62 ⟨rfl, h⟩
  have h := h.2.2.2 hc0 hc1 hc2
  refine x_tab_out dX11_seen_1 (by have a0 := lv_neT hc0 (a := 0) (by decide); have a1 := lv_neT hc1 (a := 1) (by decide); have a2 := lv_neT hc2 (a := 2) (by decide); show (l1 : Int32).toInt < 0 ∨ 2 < (l1 : Int32).toInt; omega) (tg := 63) rfl ?_
  refine x_iconst dX11_seen_63 kc_m1 64 rfl ?_
  exact x_iret dX11_seen_64 ⟨rfl, h⟩
theorem cX11_seen_ {Q : Int32 → Prop} {l0 : Nat} {l1 : Int32} {M : Mem} (hk_l0 : SHk l0 = 11) (h : FX11_seen Q l0 l1 M) : xM yX11_seen cX11_seen 2 (some .int) 2 [.ref l0, .int l1] M (xQi (xP M Q)) := xM_of (by decide +kernel) (Nat.le_of_ble_eq_true rfl) (eX11_seen hk_l0 h)
theorem kX11_seen {own : String} {cc : ByteArray} {nL : Nat} {rt : Option FieldType} {d pc ix : Nat} {L : List (Nat × Value)} {st : List Value} {M : Mem} {Rt : xGt → Array Value → State → Outcome → State → Prop} {Q : Int32 → Prop} {l0 : Nat} {l1 : Int32} (hd : decode cc pc = .ok (.invokevirtual ix, 3)) (q : Nat) (hq : pc + 3 = q) (hk_l0 : SHk l0 = 11) (w1 : Cond.methodLink own ix yX11_seen ∈ xTs) (hr : 2 < d) (hst : (st.map fun v => v.category).sum ≤ 8) (h : FX11_seen Q l0 l1 M) (k : ∀ (r : Int32), Q r → xX own cc nL rt d q L (.int r :: st) M Rt) : xX own cc nL rt d pc L (.int l1 :: .ref l0 :: st) M Rt :=
  x_callV_i (n := 1) (As := [.int l1]) hd q hq hk_l0 (by decide) rfl rfl w1 kw5_36 kw5_37 kw1_1 kw5_38 (by decide +kernel) rfl hr (by decide) hst _ rfl (cX11_seen_ hk_l0 h) (fun r N hN => by obtain ⟨rfl, hN⟩ := hN; exact k r hN)
def lbX11_hears_36 (Q : Int32 → Prop) (l1 : Int32) (l2 : Int32) (l3 : Nat) (M : Mem) (B36 : Int32 → Int32 → Int32 → Prop) (l4 : Int32) (l5 : Int32) (l6 : Int32) : Prop :=
  (((M l3 10) ≤ l6 → ((¬ l2 = 0 → Q l5) ∧ (l2 = 0 → Q l4))) ∧ (¬ (M l3 10) ≤ l6 → ((l6 = l1 → B36 l4 l5 (l6 + 1)) ∧ (¬ l6 = l1 → FX9_hearOneAnother (fun (r1 : Bool) => ((r1 = false → B36 l4 l5 (l6 + 1)) ∧ (r1 = true → ((l5 = (-1) → B36 (l4 + 1) l6 (l6 + 1)) ∧ (¬ l5 = (-1) → FJ9_abs_0f7a4 (fun (r2 : Int32) => FJ9_abs_0f7a4 (fun (r3 : Int32) => ((r2 ≤ r3 → B36 (l4 + 1) l5 (l6 + 1)) ∧ (¬ r2 ≤ r3 → B36 (l4 + 1) l6 (l6 + 1)))) (l5 - l1) M) (l6 - l1) M))))) l3 l1 l6 M))))
def NX11_hears_36 (Q : Int32 → Prop) (l1 : Int32) (l2 : Int32) (l3 : Nat) (l4 : Int32) (l5 : Int32) (l6 : Int32) (M : Mem) : Prop := xlp (fun (B : Int32 × Int32 × Int32 → Prop) a => lbX11_hears_36 Q l1 l2 l3 M (fun l4 l5 l6 => B (l4, l5, l6)) a.1 a.2.1 a.2.2) (l4, l5, l6)
theorem nX11_hears_36 {Q : Int32 → Prop} {l1 : Int32} {l2 : Int32} {l3 : Nat} {l4 : Int32} {l5 : Int32} {l6 : Int32} {M : Mem} (hk_l3 : SHk l3 = 9) (h : NX11_hears_36 Q l1 l2 l3 l4 l5 l6 M) : xX RX11 cX11_hears 7 (some .int) 3 36 [(1, .int l1), (2, .int l2), (3, .ref l3), (4, .int l4), (5, .int l5), (6, .int l6)] [] M (xQi (xP M Q)) := by
  obtain ⟨n, h⟩ := h
  have hB36 : ∀ (n : Nat) (l4 : Int32) (l5 : Int32) (l6 : Int32), xlpn (fun (B : Int32 × Int32 × Int32 → Prop) a => lbX11_hears_36 Q l1 l2 l3 M (fun l4 l5 l6 => B (l4, l5, l6)) a.1 a.2.1 a.2.2) n (l4, l5, l6) → xX RX11 cX11_hears 7 (some .int) 3 36 [(1, .int l1), (2, .int l2), (3, .ref l3), (4, .int l4), (5, .int l5), (6, .int l6)] [] M (xQi (xP M Q)) := by
    intro n
    induction n with
    | zero => intro l4 l5 l6 h; exact False.elim h
    | succ n ih =>
      intro l4 l5 l6 h
      have hB36 := ih
      have h : lbX11_hears_36 Q l1 l2 l3 M (fun l4 l5 l6 => xlpn (fun (B : Int32 × Int32 × Int32 → Prop) a => lbX11_hears_36 Q l1 l2 l3 M (fun l4 l5 l6 => B (l4, l5, l6)) a.1 a.2.1 a.2.2) n (l4, l5, l6)) l4 l5 l6 := h
      unfold lbX11_hears_36 at h
      refine x_iload dX11_hears_36 rfl 38 rfl ?_
      refine x_aload_n dX11_hears_38 rfl 39 rfl ?_
      refine gf9_10 dX11_hears_39 42 rfl hk_l3 kw1_69 ?_
      refine x_icmp_ge dX11_hears_42 97 45 rfl rfl (fun hc => ?_) (fun hc => ?_)
      · have h := h.1 hc
        refine x_iload_n dX11_hears_97 rfl 98 rfl ?_
        refine x_if_ne dX11_hears_98 106 101 rfl rfl (fun hc => ?_) (fun hc => ?_)
        · have h := h.1 hc
          refine x_iload dX11_hears_106 rfl 108 rfl ?_
          exact x_iret dX11_hears_108 ⟨rfl, h⟩
        · have h := h.2 hc
          refine x_iload dX11_hears_101 rfl 103 rfl ?_
          refine x_goto dX11_hears_103 108 rfl ?_
          exact x_iret dX11_hears_108 ⟨rfl, h⟩
      · have h := h.2 hc
        refine x_iload dX11_hears_45 rfl 47 rfl ?_
        refine x_iload_n dX11_hears_47 rfl 48 rfl ?_
        refine x_icmp_eq dX11_hears_48 91 51 rfl rfl (fun hc => ?_) (fun hc => ?_)
        · have h := h.1 hc
          refine x_iinc dX11_hears_91 rfl (congrArg (l6 + ·) kc_1) (Nat.le_of_ble_eq_true rfl) [(1, .int l1), (2, .int l2), (3, .ref l3), (4, .int l4), (5, .int l5), (6, .int (l6 + 1))] rfl 94 rfl ?_
          refine x_goto dX11_hears_94 36 rfl ?_
          exact hB36 _ _ _ h
        · have h := h.2 hc
          refine x_aload_n dX11_hears_51 rfl 52 rfl ?_
          refine x_iload_n dX11_hears_52 rfl 53 rfl ?_
          refine x_iload dX11_hears_53 rfl 55 rfl ?_
          refine kX9_hearOneAnother dX11_hears_55 58 rfl hk_l3 kw5_51 (Nat.le_of_ble_eq_true rfl) (Nat.le_of_ble_eq_true rfl) h (fun r1 h => ?_)
          refine x_if_eq_b dX11_hears_58 91 61 rfl rfl (fun hc => ?_) (fun hc => ?_)
          · have h := h.1 hc
            refine x_iinc dX11_hears_91 rfl (congrArg (l6 + ·) kc_1) (Nat.le_of_ble_eq_true rfl) [(1, .int l1), (2, .int l2), (3, .ref l3), (4, .int l4), (5, .int l5), (6, .int (l6 + 1))] rfl 94 rfl ?_
            refine x_goto dX11_hears_94 36 rfl ?_
            exact hB36 _ _ _ h
          · have h := h.2 hc
            refine x_iinc dX11_hears_61 rfl (congrArg (l4 + ·) kc_1) (Nat.le_of_ble_eq_true rfl) [(1, .int l1), (2, .int l2), (3, .ref l3), (4, .int (l4 + 1)), (5, .int l5), (6, .int l6)] rfl 64 rfl ?_
            refine x_iload dX11_hears_64 rfl 66 rfl ?_
            refine x_iconst dX11_hears_66 kc_m1 67 rfl ?_
            refine x_icmp_eq dX11_hears_67 87 70 rfl rfl (fun hc => ?_) (fun hc => ?_)
            · have h := h.1 hc
              refine x_iload dX11_hears_87 rfl 89 rfl ?_
              refine x_istore dX11_hears_89 (Nat.le_of_ble_eq_true rfl) [(1, .int l1), (2, .int l2), (3, .ref l3), (4, .int (l4 + 1)), (5, .int l6), (6, .int l6)] rfl 91 rfl ?_
              refine x_iinc dX11_hears_91 rfl (congrArg (l6 + ·) kc_1) (Nat.le_of_ble_eq_true rfl) [(1, .int l1), (2, .int l2), (3, .ref l3), (4, .int (l4 + 1)), (5, .int l6), (6, .int (l6 + 1))] rfl 94 rfl ?_
              refine x_goto dX11_hears_94 36 rfl ?_
              exact hB36 _ _ _ h
            · have h := h.2 hc
              refine x_iload dX11_hears_70 rfl 72 rfl ?_
              refine x_iload_n dX11_hears_72 rfl 73 rfl ?_
              refine x_isub dX11_hears_73 74 rfl ?_
              refine kJ9_abs_0f7a4 dX11_hears_74 77 rfl kw5_55 (Nat.le_of_ble_eq_true rfl) (Nat.le_of_ble_eq_true rfl) h (fun r2 h => ?_)
              refine x_iload dX11_hears_77 rfl 79 rfl ?_
              refine x_iload_n dX11_hears_79 rfl 80 rfl ?_
              refine x_isub dX11_hears_80 81 rfl ?_
              refine kJ9_abs_0f7a4 dX11_hears_81 84 rfl kw5_55 (Nat.le_of_ble_eq_true rfl) (Nat.le_of_ble_eq_true rfl) h (fun r3 h => ?_)
              refine x_icmp_le dX11_hears_84 91 87 rfl rfl (fun hc => ?_) (fun hc => ?_)
              · have h := h.1 hc
                refine x_iinc dX11_hears_91 rfl (congrArg (l6 + ·) kc_1) (Nat.le_of_ble_eq_true rfl) [(1, .int l1), (2, .int l2), (3, .ref l3), (4, .int (l4 + 1)), (5, .int l5), (6, .int (l6 + 1))] rfl 94 rfl ?_
                refine x_goto dX11_hears_94 36 rfl ?_
                exact hB36 _ _ _ h
              · have h := h.2 hc
                refine x_iload dX11_hears_87 rfl 89 rfl ?_
                refine x_istore dX11_hears_89 (Nat.le_of_ble_eq_true rfl) [(1, .int l1), (2, .int l2), (3, .ref l3), (4, .int (l4 + 1)), (5, .int l6), (6, .int l6)] rfl 91 rfl ?_
                refine x_iinc dX11_hears_91 rfl (congrArg (l6 + ·) kc_1) (Nat.le_of_ble_eq_true rfl) [(1, .int l1), (2, .int l2), (3, .ref l3), (4, .int (l4 + 1)), (5, .int l6), (6, .int (l6 + 1))] rfl 94 rfl ?_
                refine x_goto dX11_hears_94 36 rfl ?_
                exact hB36 _ _ _ h
  exact hB36 n l4 l5 l6 h
def FX11_hears (Q : Int32 → Prop) (l0 : Nat) (l1 : Int32) (l2 : Int32) (M : Mem) : Prop :=
  FX9_isPillar (fun (r4 : Bool) => ((r4 = false → Q (-1)) ∧ (r4 = true → ((l2 < 0 → Q (-1)) ∧ (¬ l2 < 0 → ((l2 ≤ 1 → NX11_hears_36 Q l1 l2 ((l0 + 1) + 1) 0 (-1) 0 M) ∧ (¬ l2 ≤ 1 → Q (-1)))))))) ((l0 + 1) + 1) l1 M
theorem eX11_hears {Q : Int32 → Prop} {l0 : Nat} {l1 : Int32} {l2 : Int32} {M : Mem} (hk_l0 : SHk l0 = 11) (h : FX11_hears Q l0 l1 l2 M) : xX RX11 cX11_hears 7 (some .int) 3 0 [(0, .ref l0), (1, .int l1), (2, .int l2)] [] M (xQi (xP M Q)) := by
  unfold FX11_hears at h
  refine x_aload_n dX11_hears_0 rfl 1 rfl ?_
  refine gf11_0 dX11_hears_1 4 rfl hk_l0 kw2_148 ?_
  refine gf0_0 dX11_hears_4 7 rfl (ly11_0 hk_l0).1 kw2_10 ?_
  refine x_astore_n dX11_hears_7 (Nat.le_of_ble_eq_true rfl) [(0, .ref l0), (1, .int l1), (2, .int l2), (3, .ref ((l0 + 1) + 1))] rfl 8 rfl ?_
  refine x_aload_n dX11_hears_8 rfl 9 rfl ?_
  refine x_iload_n dX11_hears_9 rfl 10 rfl ?_
  refine kX9_isPillar dX11_hears_10 13 rfl (ly0_0 (ly11_0 hk_l0).1).1 kw4_170 (Nat.le_of_ble_eq_true rfl) (Nat.le_of_ble_eq_true rfl) h (fun r4 h => ?_)
  refine x_if_eq_b dX11_hears_13 25 16 rfl rfl (fun hc => ?_) (fun hc => ?_)
  · have h := h.1 hc
    refine x_iconst dX11_hears_25 kc_m1 26 rfl ?_
    exact x_iret dX11_hears_26 ⟨rfl, h⟩
  · have h := h.2 hc
    refine x_iload_n dX11_hears_16 rfl 17 rfl ?_
    refine x_if_lt dX11_hears_17 25 20 rfl rfl (fun hc => ?_) (fun hc => ?_)
    · have h := h.1 hc
      refine x_iconst dX11_hears_25 kc_m1 26 rfl ?_
      exact x_iret dX11_hears_26 ⟨rfl, h⟩
    · have h := h.2 hc
      refine x_iload_n dX11_hears_20 rfl 21 rfl ?_
      refine x_iconst dX11_hears_21 kc_1 22 rfl ?_
      refine x_icmp_le dX11_hears_22 27 25 rfl rfl (fun hc => ?_) (fun hc => ?_)
      · have h := h.1 hc
        refine x_iconst dX11_hears_27 kc_0 28 rfl ?_
        refine x_istore dX11_hears_28 (Nat.le_of_ble_eq_true rfl) [(0, .ref l0), (1, .int l1), (2, .int l2), (3, .ref ((l0 + 1) + 1)), (4, .int 0)] rfl 30 rfl ?_
        refine x_iconst dX11_hears_30 kc_m1 31 rfl ?_
        refine x_istore dX11_hears_31 (Nat.le_of_ble_eq_true rfl) [(0, .ref l0), (1, .int l1), (2, .int l2), (3, .ref ((l0 + 1) + 1)), (4, .int 0), (5, .int (-1))] rfl 33 rfl ?_
        refine x_iconst dX11_hears_33 kc_0 34 rfl ?_
        refine x_istore dX11_hears_34 (Nat.le_of_ble_eq_true rfl) [(0, .ref l0), (1, .int l1), (2, .int l2), (3, .ref ((l0 + 1) + 1)), (4, .int 0), (5, .int (-1)), (6, .int 0)] rfl 36 rfl ?_
        refine x_weak [(1, .int l1), (2, .int l2), (3, .ref ((l0 + 1) + 1)), (4, .int 0), (5, .int (-1)), (6, .int 0)] [1, 2, 3, 4, 5, 6] rfl ?_
        exact nX11_hears_36 (ly0_0 (ly11_0 hk_l0).1).1 h
      · have h := h.2 hc
        refine x_iconst dX11_hears_25 kc_m1 26 rfl ?_
        exact x_iret dX11_hears_26 ⟨rfl, h⟩
theorem cX11_hears_ {Q : Int32 → Prop} {l0 : Nat} {l1 : Int32} {l2 : Int32} {M : Mem} (hk_l0 : SHk l0 = 11) (h : FX11_hears Q l0 l1 l2 M) : xM yX11_hears cX11_hears 7 (some .int) 3 [.ref l0, .int l1, .int l2] M (xQi (xP M Q)) := xM_of (by decide +kernel) (Nat.le_of_ble_eq_true rfl) (eX11_hears hk_l0 h)
theorem kX11_hears {own : String} {cc : ByteArray} {nL : Nat} {rt : Option FieldType} {d pc ix : Nat} {L : List (Nat × Value)} {st : List Value} {M : Mem} {Rt : xGt → Array Value → State → Outcome → State → Prop} {Q : Int32 → Prop} {l0 : Nat} {l1 : Int32} {l2 : Int32} (hd : decode cc pc = .ok (.invokevirtual ix, 3)) (q : Nat) (hq : pc + 3 = q) (hk_l0 : SHk l0 = 11) (w1 : Cond.methodLink own ix yX11_hears ∈ xTs) (hr : 3 < d) (hst : (st.map fun v => v.category).sum ≤ 8) (h : FX11_hears Q l0 l1 l2 M) (k : ∀ (r : Int32), Q r → xX own cc nL rt d q L (.int r :: st) M Rt) : xX own cc nL rt d pc L (.int l2 :: .int l1 :: .ref l0 :: st) M Rt :=
  x_callV_i (n := 2) (As := [.int l1, .int l2]) hd q hq hk_l0 (by decide) rfl rfl w1 kw5_48 kw5_49 kw1_1 kw5_50 (by decide +kernel) rfl hr (by decide) hst _ rfl (cX11_hears_ hk_l0 h) (fun r N hN => by obtain ⟨rfl, hN⟩ := hN; exact k r hN)
def FX11_build (Q : Int32 → Mem → Prop) (l0 : Nat) (l1 : Int32) (l2 : Int32) (M : Mem) : Prop :=
  ((¬ l1 = (-1) → FX11_within (fun (r1 : Bool) => ((r1 = false → Q (-1) M) ∧ (r1 = true → FX11_within (fun (r2 : Bool) => ((r2 = true → FX10_tell (fun (r4 : Int32) (M3 : Mem) => Q r4 M3) ((l0 + 1) + 29) l1 l2 M) ∧ (r2 = false → Q (-1) M))) l2 1 30 M))) l1 1 30 M) ∧ (l1 = (-1) → ∀ M5 : Mem, M5 = xu M ((l0 + 1) + 29) 3 0 → Q 0 M5))
theorem eX11_build {Q : Int32 → Mem → Prop} {l0 : Nat} {l1 : Int32} {l2 : Int32} {M : Mem} (hk_l0 : SHk l0 = 11) (h : FX11_build Q l0 l1 l2 M) : xX RX11 cX11_build 3 (some .int) 2 0 [(0, .ref l0), (1, .int l1), (2, .int l2)] [] M (xQi Q) := by
  unfold FX11_build at h
  refine x_iload_n dX11_build_0 rfl 1 rfl ?_
  refine x_iconst dX11_build_1 kc_m1 2 rfl ?_
  refine x_icmp_ne dX11_build_2 18 5 rfl rfl (fun hc => ?_) (fun hc => ?_)
  · have h := h.1 hc
    refine x_iload_n dX11_build_18 rfl 19 rfl ?_
    refine x_iconst dX11_build_19 kc_1 20 rfl ?_
    refine x_bipush dX11_build_20 kb_30 22 rfl ?_
    refine kX11_within dX11_build_22 25 rfl kw2_213 (Nat.le_of_ble_eq_true rfl) (Nat.le_of_ble_eq_true rfl) h (fun r1 h => ?_)
    refine x_if_eq_b dX11_build_25 38 28 rfl rfl (fun hc => ?_) (fun hc => ?_)
    · have h := h.1 hc
      refine x_iconst dX11_build_38 kc_m1 39 rfl ?_
      exact x_iret dX11_build_39 h
    · have h := h.2 hc
      refine x_iload_n dX11_build_28 rfl 29 rfl ?_
      refine x_iconst dX11_build_29 kc_1 30 rfl ?_
      refine x_bipush dX11_build_30 kb_30 32 rfl ?_
      refine kX11_within dX11_build_32 35 rfl kw2_213 (Nat.le_of_ble_eq_true rfl) (Nat.le_of_ble_eq_true rfl) h (fun r2 h => ?_)
      refine x_if_ne_b dX11_build_35 40 38 rfl rfl (fun hc => ?_) (fun hc => ?_)
      · have h := h.1 hc
        refine x_aload_n dX11_build_40 rfl 41 rfl ?_
        refine gf11_0 dX11_build_41 44 rfl hk_l0 kw2_148 ?_
        refine gf0_5 dX11_build_44 47 rfl (ly11_0 hk_l0).1 kw2_20 ?_
        refine x_iload_n dX11_build_47 rfl 48 rfl ?_
        refine x_iload_n dX11_build_48 rfl 49 rfl ?_
        refine kX10_tell dX11_build_49 52 rfl (ly0_5 (ly11_0 hk_l0).1).1 kw5_60 (Nat.le_of_ble_eq_true rfl) (Nat.le_of_ble_eq_true rfl) h (fun r4 M3 h => ?_)
        exact x_iret dX11_build_52 h
      · have h := h.2 hc
        refine x_iconst dX11_build_38 kc_m1 39 rfl ?_
        exact x_iret dX11_build_39 h
  · have h := h.2 hc
    refine x_aload_n dX11_build_5 rfl 6 rfl ?_
    refine gf11_0 dX11_build_6 9 rfl hk_l0 kw2_148 ?_
    refine gf0_5 dX11_build_9 12 rfl (ly11_0 hk_l0).1 kw2_20 ?_
    refine x_iconst dX11_build_12 kc_0 13 rfl ?_
    refine pf10_3 dX11_build_13 16 rfl (ly0_5 (ly11_0 hk_l0).1).1 kw1_239 (x_mem (fun M5 hM5 => ?_))
    have h := h M5 hM5
    refine x_iconst dX11_build_16 kc_0 17 rfl ?_
    exact x_iret dX11_build_17 h
theorem cX11_build_ {Q : Int32 → Mem → Prop} {l0 : Nat} {l1 : Int32} {l2 : Int32} {M : Mem} (hk_l0 : SHk l0 = 11) (h : FX11_build Q l0 l1 l2 M) : xM yX11_build cX11_build 3 (some .int) 2 [.ref l0, .int l1, .int l2] M (xQi Q) := xM_of (by decide +kernel) (Nat.le_of_ble_eq_true rfl) (eX11_build hk_l0 h)
theorem kX11_build {own : String} {cc : ByteArray} {nL : Nat} {rt : Option FieldType} {d pc ix : Nat} {L : List (Nat × Value)} {st : List Value} {M : Mem} {Rt : xGt → Array Value → State → Outcome → State → Prop} {Q : Int32 → Mem → Prop} {l0 : Nat} {l1 : Int32} {l2 : Int32} (hd : decode cc pc = .ok (.invokevirtual ix, 3)) (q : Nat) (hq : pc + 3 = q) (hk_l0 : SHk l0 = 11) (w1 : Cond.methodLink own ix yX11_build ∈ xTs) (hr : 2 < d) (hst : (st.map fun v => v.category).sum ≤ 8) (h : FX11_build Q l0 l1 l2 M) (k : ∀ (r : Int32) (N : Mem), Q r N → xX own cc nL rt d q L (.int r :: st) N Rt) : xX own cc nL rt d pc L (.int l2 :: .int l1 :: .ref l0 :: st) M Rt :=
  x_callV_i (n := 2) (As := [.int l1, .int l2]) hd q hq hk_l0 (by decide) rfl rfl w1 kw5_57 kw5_58 kw1_1 kw5_59 (by decide +kernel) rfl hr (by decide) hst _ rfl (cX11_build_ hk_l0 h) k
def FX11_builds (Q : Int32 → Mem → Prop) (l0 : Nat) (l1 : Int32) (M : Mem) : Prop :=
  ((¬ l1 = 0 → ((l1 < 10 → Q (-1) M) ∧ (¬ l1 < 10 → ((l1 < (10 + (M ((l0 + 1) + 29) 3)) → FX10_inOrder (fun (r2 : Int32) (M1 : Mem) => Q r2 M1) ((l0 + 1) + 29) (l1 - 10) M) ∧ (¬ l1 < (10 + (M ((l0 + 1) + 29) 3)) → Q (-1) M))))) ∧ (l1 = 0 → FX10_leastSum (fun (r4 : Int32) (M3 : Mem) => Q r4 M3) ((l0 + 1) + 29) M))
theorem eX11_builds {Q : Int32 → Mem → Prop} {l0 : Nat} {l1 : Int32} {M : Mem} (hk_l0 : SHk l0 = 11) (h : FX11_builds Q l0 l1 M) : xX RX11 cX11_builds 2 (some .int) 4 0 [(0, .ref l0), (1, .int l1)] [] M (xQi Q) := by
  unfold FX11_builds at h
  refine x_iload_n dX11_builds_0 rfl 1 rfl ?_
  refine x_if_ne dX11_builds_1 15 4 rfl rfl (fun hc => ?_) (fun hc => ?_)
  · have h := h.1 hc
    refine x_iload_n dX11_builds_15 rfl 16 rfl ?_
    refine x_bipush dX11_builds_16 kb_10 18 rfl ?_
    refine x_icmp_lt dX11_builds_18 38 21 rfl rfl (fun hc => ?_) (fun hc => ?_)
    · have h := h.1 hc
      refine x_iconst dX11_builds_38 kc_m1 39 rfl ?_
      exact x_iret dX11_builds_39 h
    · have h := h.2 hc
      refine x_iload_n dX11_builds_21 rfl 22 rfl ?_
      refine x_bipush dX11_builds_22 kb_10 24 rfl ?_
      refine x_aload_n dX11_builds_24 rfl 25 rfl ?_
      refine gf11_0 dX11_builds_25 28 rfl hk_l0 kw2_148 ?_
      refine gf0_5 dX11_builds_28 31 rfl (ly11_0 hk_l0).1 kw2_20 ?_
      refine gf10_3 dX11_builds_31 34 rfl (ly0_5 (ly11_0 hk_l0).1).1 kw1_239 ?_
      refine x_iadd dX11_builds_34 35 rfl ?_
      refine x_icmp_lt dX11_builds_35 40 38 rfl rfl (fun hc => ?_) (fun hc => ?_)
      · have h := h.1 hc
        refine x_aload_n dX11_builds_40 rfl 41 rfl ?_
        refine gf11_0 dX11_builds_41 44 rfl hk_l0 kw2_148 ?_
        refine gf0_5 dX11_builds_44 47 rfl (ly11_0 hk_l0).1 kw2_20 ?_
        refine x_iload_n dX11_builds_47 rfl 48 rfl ?_
        refine x_bipush dX11_builds_48 kb_10 50 rfl ?_
        refine x_isub dX11_builds_50 51 rfl ?_
        refine kX10_inOrder dX11_builds_51 54 rfl (ly0_5 (ly11_0 hk_l0).1).1 kw5_80 (Nat.le_of_ble_eq_true rfl) (Nat.le_of_ble_eq_true rfl) h (fun r2 M1 h => ?_)
        exact x_iret dX11_builds_54 h
      · have h := h.2 hc
        refine x_iconst dX11_builds_38 kc_m1 39 rfl ?_
        exact x_iret dX11_builds_39 h
  · have h := h.2 hc
    refine x_aload_n dX11_builds_4 rfl 5 rfl ?_
    refine gf11_0 dX11_builds_5 8 rfl hk_l0 kw2_148 ?_
    refine gf0_5 dX11_builds_8 11 rfl (ly11_0 hk_l0).1 kw2_20 ?_
    refine kX10_leastSum dX11_builds_11 14 rfl (ly0_5 (ly11_0 hk_l0).1).1 kw5_68 (Nat.le_of_ble_eq_true rfl) (Nat.le_of_ble_eq_true rfl) h (fun r4 M3 h => ?_)
    exact x_iret dX11_builds_14 h
theorem cX11_builds_ {Q : Int32 → Mem → Prop} {l0 : Nat} {l1 : Int32} {M : Mem} (hk_l0 : SHk l0 = 11) (h : FX11_builds Q l0 l1 M) : xM yX11_builds cX11_builds 2 (some .int) 4 [.ref l0, .int l1] M (xQi Q) := xM_of (by decide +kernel) (Nat.le_of_ble_eq_true rfl) (eX11_builds hk_l0 h)
theorem kX11_builds {own : String} {cc : ByteArray} {nL : Nat} {rt : Option FieldType} {d pc ix : Nat} {L : List (Nat × Value)} {st : List Value} {M : Mem} {Rt : xGt → Array Value → State → Outcome → State → Prop} {Q : Int32 → Mem → Prop} {l0 : Nat} {l1 : Int32} (hd : decode cc pc = .ok (.invokevirtual ix, 3)) (q : Nat) (hq : pc + 3 = q) (hk_l0 : SHk l0 = 11) (w1 : Cond.methodLink own ix yX11_builds ∈ xTs) (hr : 4 < d) (hst : (st.map fun v => v.category).sum ≤ 8) (h : FX11_builds Q l0 l1 M) (k : ∀ (r : Int32) (N : Mem), Q r N → xX own cc nL rt d q L (.int r :: st) N Rt) : xX own cc nL rt d pc L (.int l1 :: .ref l0 :: st) M Rt :=
  x_callV_i (n := 1) (As := [.int l1]) hd q hq hk_l0 (by decide) rfl rfl w1 kw5_65 kw5_66 kw1_1 kw5_67 (by decide +kernel) rfl hr (by decide) hst _ rfl (cX11_builds_ hk_l0 h) k
