def lbX12_days_36 (Q : Int32 → Mem → Prop) (l0 : Nat) (l1 : Int32) (B36 : Int32 → Int32 → Mem → Prop) (l2 : Int32) (l3 : Int32) (M : Mem) : Prop :=
  ((l1 ≤ l3 → Q l2 M) ∧ (¬ l1 ≤ l3 → FX12_keepsAhead (fun (M1 : Mem) => FX12_goesBy (fun (r3 : Int32) (M2 : Mem) => B36 (l2 + r3) (l3 + 1) M2) l0 M1) l0 M))
def NX12_days_36 (Q : Int32 → Mem → Prop) (l0 : Nat) (l1 : Int32) (l2 : Int32) (l3 : Int32) (M : Mem) : Prop := xlp (fun (B : Int32 × Int32 × Mem → Prop) a => lbX12_days_36 Q l0 l1 (fun l2 l3 M => B (l2, l3, M)) a.1 a.2.1 a.2.2) (l2, l3, M)
theorem nX12_days_36 {Q : Int32 → Mem → Prop} {l0 : Nat} {l1 : Int32} {l2 : Int32} {l3 : Int32} {M : Mem} (hk_l0 : SHk l0 = 12) (h : NX12_days_36 Q l0 l1 l2 l3 M) : xX RX12 cX12_days 4 (some .int) 9 36 [(0, .ref l0), (1, .int l1), (2, .int l2), (3, .int l3)] [] M (xQi Q) := by
  obtain ⟨n, h⟩ := h
  have hB36 : ∀ (n : Nat) (l2 : Int32) (l3 : Int32) (M : Mem), xlpn (fun (B : Int32 × Int32 × Mem → Prop) a => lbX12_days_36 Q l0 l1 (fun l2 l3 M => B (l2, l3, M)) a.1 a.2.1 a.2.2) n (l2, l3, M) → xX RX12 cX12_days 4 (some .int) 9 36 [(0, .ref l0), (1, .int l1), (2, .int l2), (3, .int l3)] [] M (xQi Q) := by
    intro n
    induction n with
    | zero => intro l2 l3 M h; exact False.elim h
    | succ n ih =>
      intro l2 l3 M h
      have hB36 := ih
      have h : lbX12_days_36 Q l0 l1 (fun l2 l3 M => xlpn (fun (B : Int32 × Int32 × Mem → Prop) a => lbX12_days_36 Q l0 l1 (fun l2 l3 M => B (l2, l3, M)) a.1 a.2.1 a.2.2) n (l2, l3, M)) l2 l3 M := h
      unfold lbX12_days_36 at h
      refine x_iload_n dX12_days_36 rfl 37 rfl ?_
      refine x_iload_n dX12_days_37 rfl 38 rfl ?_
      refine x_icmp_ge dX12_days_38 58 41 rfl rfl (fun hc => ?_) (fun hc => ?_)
      · have h := h.1 hc
        refine x_iload_n dX12_days_58 rfl 59 rfl ?_
        exact x_iret dX12_days_59 h
      · have h := h.2 hc
        refine x_aload_n dX12_days_41 rfl 42 rfl ?_
        refine kX12_keepsAhead dX12_days_42 45 rfl hk_l0 kw7_54 (Nat.le_of_ble_eq_true rfl) (Nat.le_of_ble_eq_true rfl) h (fun M1 h => ?_)
        refine x_iload_n dX12_days_45 rfl 46 rfl ?_
        refine x_aload_n dX12_days_46 rfl 47 rfl ?_
        refine kX12_goesBy dX12_days_47 50 rfl hk_l0 kw7_74 (Nat.le_of_ble_eq_true rfl) (Nat.le_of_ble_eq_true rfl) h (fun r3 M2 h => ?_)
        refine x_iadd dX12_days_50 51 rfl ?_
        refine x_istore_n dX12_days_51 (Nat.le_of_ble_eq_true rfl) [(0, .ref l0), (1, .int l1), (2, .int (l2 + r3)), (3, .int l3)] rfl 52 rfl ?_
        refine x_iinc dX12_days_52 rfl (congrArg (l3 + ·) kc_1) (Nat.le_of_ble_eq_true rfl) [(0, .ref l0), (1, .int l1), (2, .int (l2 + r3)), (3, .int (l3 + 1))] rfl 55 rfl ?_
        refine x_goto dX12_days_55 36 rfl ?_
        exact hB36 _ _ _ h
  exact hB36 n l2 l3 M h
def FX12_days (Q : Int32 → Mem → Prop) (l0 : Nat) (l1 : Int32) (M : Mem) : Prop :=
  ∀ M4 : Mem, M4 = xu M l0 0 0 → FX12_isIn (fun (r5 : Bool) => ((r5 = false → Q (-1) M4) ∧ (r5 = true → ((((M4 (l0 + 1) 0) + l1) ≤ 9999 → NX12_days_36 Q l0 l1 0 0 M4) ∧ (¬ ((M4 (l0 + 1) 0) + l1) ≤ 9999 → Q (-1) M4))))) l0 l1 1 60 M4
theorem eX12_days {Q : Int32 → Mem → Prop} {l0 : Nat} {l1 : Int32} {M : Mem} (hk_l0 : SHk l0 = 12) (h : FX12_days Q l0 l1 M) : xX RX12 cX12_days 4 (some .int) 9 0 [(0, .ref l0), (1, .int l1)] [] M (xQi Q) := by
  unfold FX12_days at h
  refine x_aload_n dX12_days_0 rfl 1 rfl ?_
  refine x_iconst dX12_days_1 kc_0 2 rfl ?_
  refine pf12_0 dX12_days_2 5 rfl hk_l0 kw5_159 (x_mem (fun M4 hM4 => ?_))
  have h := h M4 hM4
  refine x_aload_n dX12_days_5 rfl 6 rfl ?_
  refine x_iload_n dX12_days_6 rfl 7 rfl ?_
  refine x_iconst dX12_days_7 kc_1 8 rfl ?_
  refine x_bipush dX12_days_8 kb_60 10 rfl ?_
  refine kX12_isIn dX12_days_10 13 rfl hk_l0 kw6_82 (Nat.le_of_ble_eq_true rfl) (Nat.le_of_ble_eq_true rfl) h (fun r5 h => ?_)
  refine x_if_eq_b dX12_days_13 30 16 rfl rfl (fun hc => ?_) (fun hc => ?_)
  · have h := h.1 hc
    refine x_iconst dX12_days_30 kc_m1 31 rfl ?_
    exact x_iret dX12_days_31 h
  · have h := h.2 hc
    refine x_aload_n dX12_days_16 rfl 17 rfl ?_
    refine gf12_1 dX12_days_17 20 rfl hk_l0 kw5_160 ?_
    refine x_iconst dX12_days_20 kc_0 21 rfl ?_
    refine x_iaload dX12_days_21 (ly12_1 hk_l0) (by unfold vp_in; decide) 22 rfl ?_
    refine x_iload_n dX12_days_22 rfl 23 rfl ?_
    refine x_iadd dX12_days_23 24 rfl ?_
    refine x_sipush dX12_days_24 kh_9999 27 rfl ?_
    refine x_icmp_le dX12_days_27 32 30 rfl rfl (fun hc => ?_) (fun hc => ?_)
    · have h := h.1 hc
      refine x_iconst dX12_days_32 kc_0 33 rfl ?_
      refine x_istore_n dX12_days_33 (Nat.le_of_ble_eq_true rfl) [(0, .ref l0), (1, .int l1), (2, .int 0)] rfl 34 rfl ?_
      refine x_iconst dX12_days_34 kc_0 35 rfl ?_
      refine x_istore_n dX12_days_35 (Nat.le_of_ble_eq_true rfl) [(0, .ref l0), (1, .int l1), (2, .int 0), (3, .int 0)] rfl 36 rfl ?_
      exact nX12_days_36 hk_l0 h
    · have h := h.2 hc
      refine x_iconst dX12_days_30 kc_m1 31 rfl ?_
      exact x_iret dX12_days_31 h
theorem cX12_days_ {Q : Int32 → Mem → Prop} {l0 : Nat} {l1 : Int32} {M : Mem} (hk_l0 : SHk l0 = 12) (h : FX12_days Q l0 l1 M) : xM yX12_days cX12_days 4 (some .int) 9 [.ref l0, .int l1] M (xQi Q) := xM_of (by decide +kernel) (Nat.le_of_ble_eq_true rfl) (eX12_days hk_l0 h)
theorem kX12_days {own : String} {cc : ByteArray} {nL : Nat} {rt : Option FieldType} {d pc ix : Nat} {L : List (Nat × Value)} {st : List Value} {M : Mem} {Rt : xGt → Array Value → State → Outcome → State → Prop} {Q : Int32 → Mem → Prop} {l0 : Nat} {l1 : Int32} (hd : decode cc pc = .ok (.invokevirtual ix, 3)) (q : Nat) (hq : pc + 3 = q) (hk_l0 : SHk l0 = 12) (w1 : Cond.methodLink own ix yX12_days ∈ xTs) (hr : 9 < d) (hst : (st.map fun v => v.category).sum ≤ 8) (h : FX12_days Q l0 l1 M) (k : ∀ (r : Int32) (N : Mem), Q r N → xX own cc nL rt d q L (.int r :: st) N Rt) : xX own cc nL rt d pc L (.int l1 :: .ref l0 :: st) M Rt :=
  x_callV_i (n := 1) (As := [.int l1]) hd q hq hk_l0 (by decide) rfl rfl w1 kw7_71 kw7_72 kw1_14 kw7_73 (by decide +kernel) rfl hr (by decide) hst _ rfl (cX12_days_ hk_l0 h) k
def FX12_of (Q : Int32 → Mem → Prop) (l0 : Nat) (l1 : Int32) (l2 : Int32) (M : Mem) : Prop :=
  ∀ M1 : Mem, M1 = xu M l0 0 0 → FX12_isSaint (fun (r2 : Bool) => ((r2 = true → ((¬ l2 = 0 → ((¬ l2 = 1 → ((¬ l2 = 2 → ((¬ l2 = 3 → ((¬ l2 = 4 → ((¬ l2 = 5 → ((¬ l2 = 6 → ((¬ l2 = 7 → ((¬ l2 = 8 → ((¬ l2 = 9 → Q (-100) M1) ∧ (l2 = 9 → FX12_leansOf (fun (r4 : Int32) (M3 : Mem) => Q r4 M3) l0 l1 M1))) ∧ (l2 = 8 → FX12_diesOf (fun (r6 : Int32) (M5 : Mem) => Q r6 M5) l0 l1 M1))) ∧ (l2 = 7 → FX12_eatsOf (fun (r8 : Int32) (M7 : Mem) => Q r8 M7) l0 l1 M1))) ∧ (l2 = 6 → FX12_placeOf (fun (r9 : Int32) => Q r9 M1) l0 l1 M1))) ∧ (l2 = 5 → FX12_pillarOf (fun (r10 : Int32) => Q r10 M1) l0 l1 M1))) ∧ (l2 = 4 → vp_in (49 + l1) 107 ∧ Q (M1 (l0 + 1) (ix (49 + l1))) M1))) ∧ (l2 = 3 → vp_in (35 + l1) 107 ∧ Q (M1 (l0 + 1) (ix (35 + l1))) M1))) ∧ (l2 = 2 → vp_in (21 + l1) 107 ∧ Q (M1 (l0 + 1) (ix (21 + l1))) M1))) ∧ (l2 = 1 → vp_in l1 14 ∧ Q (M1 (l0 + 4) (ix l1)) M1))) ∧ (l2 = 0 → vp_in (7 + l1) 107 ∧ Q (M1 (l0 + 1) (ix (7 + l1))) M1))) ∧ (r2 = false → Q (-100) M1))) l0 l1 M1
theorem eX12_of {Q : Int32 → Mem → Prop} {l0 : Nat} {l1 : Int32} {l2 : Int32} {M : Mem} (hk_l0 : SHk l0 = 12) (h : FX12_of Q l0 l1 l2 M) : xX RX12 cX12_of 3 (some .int) 6 0 [(0, .ref l0), (1, .int l1), (2, .int l2)] [] M (xQi Q) := by
  unfold FX12_of at h
  refine x_aload_n dX12_of_0 rfl 1 rfl ?_
  refine x_iconst dX12_of_1 kc_0 2 rfl ?_
  refine pf12_0 dX12_of_2 5 rfl hk_l0 kw5_159 (x_mem (fun M1 hM1 => ?_))
  have h := h M1 hM1
  refine x_aload_n dX12_of_5 rfl 6 rfl ?_
  refine x_iload_n dX12_of_6 rfl 7 rfl ?_
  refine kX12_isSaint dX12_of_7 10 rfl hk_l0 kw6_122 (Nat.le_of_ble_eq_true rfl) (Nat.le_of_ble_eq_true rfl) h (fun r2 h => ?_)
  refine x_if_ne_b dX12_of_10 16 13 rfl rfl (fun hc => ?_) (fun hc => ?_)
  · have h := h.1 hc
    refine x_iload_n dX12_of_16 rfl 17 rfl ?_
    refine x_if_ne dX12_of_17 30 20 rfl rfl (fun hc => ?_) (fun hc => ?_)
    · have h := h.1 hc
      refine x_iload_n dX12_of_30 rfl 31 rfl ?_
      refine x_iconst dX12_of_31 kc_1 32 rfl ?_
      refine x_icmp_ne dX12_of_32 42 35 rfl rfl (fun hc => ?_) (fun hc => ?_)
      · have h := h.1 hc
        refine x_iload_n dX12_of_42 rfl 43 rfl ?_
        refine x_iconst dX12_of_43 kc_2 44 rfl ?_
        refine x_icmp_ne dX12_of_44 57 47 rfl rfl (fun hc => ?_) (fun hc => ?_)
        · have h := h.1 hc
          refine x_iload_n dX12_of_57 rfl 58 rfl ?_
          refine x_iconst dX12_of_58 kc_3 59 rfl ?_
          refine x_icmp_ne dX12_of_59 72 62 rfl rfl (fun hc => ?_) (fun hc => ?_)
          · have h := h.1 hc
            refine x_iload_n dX12_of_72 rfl 73 rfl ?_
            refine x_iconst dX12_of_73 kc_4 74 rfl ?_
            refine x_icmp_ne dX12_of_74 87 77 rfl rfl (fun hc => ?_) (fun hc => ?_)
            · have h := h.1 hc
              refine x_iload_n dX12_of_87 rfl 88 rfl ?_
              refine x_iconst dX12_of_88 kc_5 89 rfl ?_
              refine x_icmp_ne dX12_of_89 98 92 rfl rfl (fun hc => ?_) (fun hc => ?_)
              · have h := h.1 hc
                refine x_iload_n dX12_of_98 rfl 99 rfl ?_
                refine x_bipush dX12_of_99 kb_6 101 rfl ?_
                refine x_icmp_ne dX12_of_101 110 104 rfl rfl (fun hc => ?_) (fun hc => ?_)
                · have h := h.1 hc
                  refine x_iload_n dX12_of_110 rfl 111 rfl ?_
                  refine x_bipush dX12_of_111 kb_7 113 rfl ?_
                  refine x_icmp_ne dX12_of_113 122 116 rfl rfl (fun hc => ?_) (fun hc => ?_)
                  · have h := h.1 hc
                    refine x_iload_n dX12_of_122 rfl 123 rfl ?_
                    refine x_bipush dX12_of_123 kb_8 125 rfl ?_
                    refine x_icmp_ne dX12_of_125 136 128 rfl rfl (fun hc => ?_) (fun hc => ?_)
                    · have h := h.1 hc
                      refine x_iload_n dX12_of_136 rfl 137 rfl ?_
                      refine x_bipush dX12_of_137 kb_9 139 rfl ?_
                      refine x_icmp_ne dX12_of_139 150 142 rfl rfl (fun hc => ?_) (fun hc => ?_)
                      · have h := h.1 hc
                        refine x_bipush dX12_of_150 kb_m100 152 rfl ?_
                        exact x_iret dX12_of_152 h
                      · have h := h.2 hc
                        refine x_aload_n dX12_of_142 rfl 143 rfl ?_
                        refine x_iload_n dX12_of_143 rfl 144 rfl ?_
                        refine kX12_leansOf dX12_of_144 147 rfl hk_l0 kw7_142 (Nat.le_of_ble_eq_true rfl) (Nat.le_of_ble_eq_true rfl) h (fun r4 M3 h => ?_)
                        refine x_goto dX12_of_147 152 rfl ?_
                        exact x_iret dX12_of_152 h
                    · have h := h.2 hc
                      refine x_aload_n dX12_of_128 rfl 129 rfl ?_
                      refine x_iload_n dX12_of_129 rfl 130 rfl ?_
                      refine kX12_diesOf dX12_of_130 133 rfl hk_l0 kw7_154 (Nat.le_of_ble_eq_true rfl) (Nat.le_of_ble_eq_true rfl) h (fun r6 M5 h => ?_)
                      refine x_goto dX12_of_133 152 rfl ?_
                      exact x_iret dX12_of_152 h
                  · have h := h.2 hc
                    refine x_aload_n dX12_of_116 rfl 117 rfl ?_
                    refine x_iload_n dX12_of_117 rfl 118 rfl ?_
                    refine kX12_eatsOf dX12_of_118 121 rfl hk_l0 kw7_94 (Nat.le_of_ble_eq_true rfl) (Nat.le_of_ble_eq_true rfl) h (fun r8 M7 h => ?_)
                    exact x_iret dX12_of_121 h
                · have h := h.2 hc
                  refine x_aload_n dX12_of_104 rfl 105 rfl ?_
                  refine x_iload_n dX12_of_105 rfl 106 rfl ?_
                  refine kX12_placeOf dX12_of_106 109 rfl hk_l0 kw7_168 (Nat.le_of_ble_eq_true rfl) (Nat.le_of_ble_eq_true rfl) h (fun r9 h => ?_)
                  exact x_iret dX12_of_109 h
              · have h := h.2 hc
                refine x_aload_n dX12_of_92 rfl 93 rfl ?_
                refine x_iload_n dX12_of_93 rfl 94 rfl ?_
                refine kX12_pillarOf dX12_of_94 97 rfl hk_l0 kw7_46 (Nat.le_of_ble_eq_true rfl) (Nat.le_of_ble_eq_true rfl) h (fun r10 h => ?_)
                exact x_iret dX12_of_97 h
            · have h := h.2 hc
              refine x_aload_n dX12_of_77 rfl 78 rfl ?_
              refine gf12_1 dX12_of_78 81 rfl hk_l0 kw5_160 ?_
              refine x_bipush dX12_of_81 kb_49 83 rfl ?_
              refine x_iload_n dX12_of_83 rfl 84 rfl ?_
              refine x_iadd dX12_of_84 85 rfl ?_
              obtain ⟨hin, h⟩ := h
              refine x_iaload dX12_of_85 (ly12_1 hk_l0) hin 86 rfl ?_
              exact x_iret dX12_of_86 h
          · have h := h.2 hc
            refine x_aload_n dX12_of_62 rfl 63 rfl ?_
            refine gf12_1 dX12_of_63 66 rfl hk_l0 kw5_160 ?_
            refine x_bipush dX12_of_66 kb_35 68 rfl ?_
            refine x_iload_n dX12_of_68 rfl 69 rfl ?_
            refine x_iadd dX12_of_69 70 rfl ?_
            obtain ⟨hin, h⟩ := h
            refine x_iaload dX12_of_70 (ly12_1 hk_l0) hin 71 rfl ?_
            exact x_iret dX12_of_71 h
        · have h := h.2 hc
          refine x_aload_n dX12_of_47 rfl 48 rfl ?_
          refine gf12_1 dX12_of_48 51 rfl hk_l0 kw5_160 ?_
          refine x_bipush dX12_of_51 kb_21 53 rfl ?_
          refine x_iload_n dX12_of_53 rfl 54 rfl ?_
          refine x_iadd dX12_of_54 55 rfl ?_
          obtain ⟨hin, h⟩ := h
          refine x_iaload dX12_of_55 (ly12_1 hk_l0) hin 56 rfl ?_
          exact x_iret dX12_of_56 h
      · have h := h.2 hc
        refine x_aload_n dX12_of_35 rfl 36 rfl ?_
        refine gf12_8 dX12_of_36 39 rfl hk_l0 kw5_167 ?_
        refine x_iload_n dX12_of_39 rfl 40 rfl ?_
        obtain ⟨hin, h⟩ := h
        refine x_iaload dX12_of_40 (ly12_8 hk_l0) hin 41 rfl ?_
        exact x_iret dX12_of_41 h
    · have h := h.2 hc
      refine x_aload_n dX12_of_20 rfl 21 rfl ?_
      refine gf12_1 dX12_of_21 24 rfl hk_l0 kw5_160 ?_
      refine x_bipush dX12_of_24 kb_7 26 rfl ?_
      refine x_iload_n dX12_of_26 rfl 27 rfl ?_
      refine x_iadd dX12_of_27 28 rfl ?_
      obtain ⟨hin, h⟩ := h
      refine x_iaload dX12_of_28 (ly12_1 hk_l0) hin 29 rfl ?_
      exact x_iret dX12_of_29 h
  · have h := h.2 hc
    refine x_bipush dX12_of_13 kb_m100 15 rfl ?_
    exact x_iret dX12_of_15 h
theorem cX12_of_ {Q : Int32 → Mem → Prop} {l0 : Nat} {l1 : Int32} {l2 : Int32} {M : Mem} (hk_l0 : SHk l0 = 12) (h : FX12_of Q l0 l1 l2 M) : xM yX12_of cX12_of 3 (some .int) 6 [.ref l0, .int l1, .int l2] M (xQi Q) := xM_of (by decide +kernel) (Nat.le_of_ble_eq_true rfl) (eX12_of hk_l0 h)
theorem kX12_of {own : String} {cc : ByteArray} {nL : Nat} {rt : Option FieldType} {d pc ix : Nat} {L : List (Nat × Value)} {st : List Value} {M : Mem} {Rt : xGt → Array Value → State → Outcome → State → Prop} {Q : Int32 → Mem → Prop} {l0 : Nat} {l1 : Int32} {l2 : Int32} (hd : decode cc pc = .ok (.invokevirtual ix, 3)) (q : Nat) (hq : pc + 3 = q) (hk_l0 : SHk l0 = 12) (w1 : Cond.methodLink own ix yX12_of ∈ xTs) (hr : 6 < d) (hst : (st.map fun v => v.category).sum ≤ 8) (h : FX12_of Q l0 l1 l2 M) (k : ∀ (r : Int32) (N : Mem), Q r N → xX own cc nL rt d q L (.int r :: st) N Rt) : xX own cc nL rt d pc L (.int l2 :: .int l1 :: .ref l0 :: st) M Rt :=
  x_callV_i (n := 2) (As := [.int l1, .int l2]) hd q hq hk_l0 (by decide) rfl rfl w1 kw7_173 kw7_174 kw1_14 kw7_175 (by decide +kernel) rfl hr (by decide) hst _ rfl (cX12_of_ hk_l0 h) k
def FX12_at (Q : Int32 → Mem → Prop) (l0 : Nat) (l1 : Int32) (l2 : Int32) (M : Mem) : Prop :=
  ∀ M1 : Mem, M1 = xu M l0 0 0 → FX12_isPillar (fun (r2 : Bool) => ((r2 = true → ((¬ l2 = 0 → ((¬ l2 = 1 → ((¬ l2 = 2 → Q (-200) M1) ∧ (l2 = 2 → vp_in (83 + l1) 107 ∧ ((¬ (M1 (l0 + 1) (ix (83 + l1))) = 0 → vp_in (83 + l1) 107 ∧ Q ((M1 (l0 + 1) (ix (83 + l1))) - 100) M1) ∧ ((M1 (l0 + 1) (ix (83 + l1))) = 0 → Q (-100) M1))))) ∧ (l2 = 1 → FX12_sitterOf (fun (r3 : Int32) => Q r3 M1) l0 l1 M1))) ∧ (l2 = 0 → vp_in (63 + l1) 107 ∧ Q (M1 (l0 + 1) (ix (63 + l1))) M1))) ∧ (r2 = false → Q (-200) M1))) l0 l1 M1
theorem eX12_at {Q : Int32 → Mem → Prop} {l0 : Nat} {l1 : Int32} {l2 : Int32} {M : Mem} (hk_l0 : SHk l0 = 12) (h : FX12_at Q l0 l1 l2 M) : xX RX12 cX12_at 3 (some .int) 2 0 [(0, .ref l0), (1, .int l1), (2, .int l2)] [] M (xQi Q) := by
  unfold FX12_at at h
  refine x_aload_n dX12_at_0 rfl 1 rfl ?_
  refine x_iconst dX12_at_1 kc_0 2 rfl ?_
  refine pf12_0 dX12_at_2 5 rfl hk_l0 kw5_159 (x_mem (fun M1 hM1 => ?_))
  have h := h M1 hM1
  refine x_aload_n dX12_at_5 rfl 6 rfl ?_
  refine x_iload_n dX12_at_6 rfl 7 rfl ?_
  refine kX12_isPillar dX12_at_7 10 rfl hk_l0 kw7_50 (Nat.le_of_ble_eq_true rfl) (Nat.le_of_ble_eq_true rfl) h (fun r2 h => ?_)
  refine x_if_ne_b dX12_at_10 17 13 rfl rfl (fun hc => ?_) (fun hc => ?_)
  · have h := h.1 hc
    refine x_iload_n dX12_at_17 rfl 18 rfl ?_
    refine x_if_ne dX12_at_18 31 21 rfl rfl (fun hc => ?_) (fun hc => ?_)
    · have h := h.1 hc
      refine x_iload_n dX12_at_31 rfl 32 rfl ?_
      refine x_iconst dX12_at_32 kc_1 33 rfl ?_
      refine x_icmp_ne dX12_at_33 42 36 rfl rfl (fun hc => ?_) (fun hc => ?_)
      · have h := h.1 hc
        refine x_iload_n dX12_at_42 rfl 43 rfl ?_
        refine x_iconst dX12_at_43 kc_2 44 rfl ?_
        refine x_icmp_ne dX12_at_44 79 47 rfl rfl (fun hc => ?_) (fun hc => ?_)
        · have h := h.1 hc
          refine x_sipush dX12_at_79 kh_m200 82 rfl ?_
          exact x_iret dX12_at_82 h
        · have h := h.2 hc
          refine x_aload_n dX12_at_47 rfl 48 rfl ?_
          refine gf12_1 dX12_at_48 51 rfl hk_l0 kw5_160 ?_
          refine x_bipush dX12_at_51 kb_83 53 rfl ?_
          refine x_iload_n dX12_at_53 rfl 54 rfl ?_
          refine x_iadd dX12_at_54 55 rfl ?_
          obtain ⟨hin, h⟩ := h
          refine x_iaload dX12_at_55 (ly12_1 hk_l0) hin 56 rfl ?_
          refine x_if_ne dX12_at_56 64 59 rfl rfl (fun hc => ?_) (fun hc => ?_)
          · have h := h.1 hc
            refine x_aload_n dX12_at_64 rfl 65 rfl ?_
            refine gf12_1 dX12_at_65 68 rfl hk_l0 kw5_160 ?_
            refine x_bipush dX12_at_68 kb_83 70 rfl ?_
            refine x_iload_n dX12_at_70 rfl 71 rfl ?_
            refine x_iadd dX12_at_71 72 rfl ?_
            obtain ⟨hin, h⟩ := h
            refine x_iaload dX12_at_72 (ly12_1 hk_l0) hin 73 rfl ?_
            refine x_bipush dX12_at_73 kb_100 75 rfl ?_
            refine x_isub dX12_at_75 76 rfl ?_
            refine x_goto dX12_at_76 82 rfl ?_
            exact x_iret dX12_at_82 h
          · have h := h.2 hc
            refine x_bipush dX12_at_59 kb_m100 61 rfl ?_
            refine x_goto dX12_at_61 82 rfl ?_
            exact x_iret dX12_at_82 h
      · have h := h.2 hc
        refine x_aload_n dX12_at_36 rfl 37 rfl ?_
        refine x_iload_n dX12_at_37 rfl 38 rfl ?_
        refine kX12_sitterOf dX12_at_38 41 rfl hk_l0 kw6_90 (Nat.le_of_ble_eq_true rfl) (Nat.le_of_ble_eq_true rfl) h (fun r3 h => ?_)
        exact x_iret dX12_at_41 h
    · have h := h.2 hc
      refine x_aload_n dX12_at_21 rfl 22 rfl ?_
      refine gf12_1 dX12_at_22 25 rfl hk_l0 kw5_160 ?_
      refine x_bipush dX12_at_25 kb_63 27 rfl ?_
      refine x_iload_n dX12_at_27 rfl 28 rfl ?_
      refine x_iadd dX12_at_28 29 rfl ?_
      obtain ⟨hin, h⟩ := h
      refine x_iaload dX12_at_29 (ly12_1 hk_l0) hin 30 rfl ?_
      exact x_iret dX12_at_30 h
  · have h := h.2 hc
    refine x_sipush dX12_at_13 kh_m200 16 rfl ?_
    exact x_iret dX12_at_16 h
theorem cX12_at_ {Q : Int32 → Mem → Prop} {l0 : Nat} {l1 : Int32} {l2 : Int32} {M : Mem} (hk_l0 : SHk l0 = 12) (h : FX12_at Q l0 l1 l2 M) : xM yX12_at cX12_at 3 (some .int) 2 [.ref l0, .int l1, .int l2] M (xQi Q) := xM_of (by decide +kernel) (Nat.le_of_ble_eq_true rfl) (eX12_at hk_l0 h)
theorem kX12_at {own : String} {cc : ByteArray} {nL : Nat} {rt : Option FieldType} {d pc ix : Nat} {L : List (Nat × Value)} {st : List Value} {M : Mem} {Rt : xGt → Array Value → State → Outcome → State → Prop} {Q : Int32 → Mem → Prop} {l0 : Nat} {l1 : Int32} {l2 : Int32} (hd : decode cc pc = .ok (.invokevirtual ix, 3)) (q : Nat) (hq : pc + 3 = q) (hk_l0 : SHk l0 = 12) (w1 : Cond.methodLink own ix yX12_at ∈ xTs) (hr : 2 < d) (hst : (st.map fun v => v.category).sum ≤ 8) (h : FX12_at Q l0 l1 l2 M) (k : ∀ (r : Int32) (N : Mem), Q r N → xX own cc nL rt d q L (.int r :: st) N Rt) : xX own cc nL rt d pc L (.int l2 :: .int l1 :: .ref l0 :: st) M Rt :=
  x_callV_i (n := 2) (As := [.int l1, .int l2]) hd q hq hk_l0 (by decide) rfl rfl w1 kw7_177 kw7_178 kw1_14 kw7_179 (by decide +kernel) rfl hr (by decide) hst _ rfl (cX12_at_ hk_l0 h) k
def FX12_sky (Q : Int32 → Mem → Prop) (l0 : Nat) (l1 : Int32) (M : Mem) : Prop :=
  ∀ M1 : Mem, M1 = xu M l0 0 0 → FX12_skyOf (fun (r2 : Int32) => Q r2 M1) l0 l1 M1
theorem eX12_sky {Q : Int32 → Mem → Prop} {l0 : Nat} {l1 : Int32} {M : Mem} (hk_l0 : SHk l0 = 12) (h : FX12_sky Q l0 l1 M) : xX RX12 cX12_sky 2 (some .int) 2 0 [(0, .ref l0), (1, .int l1)] [] M (xQi Q) := by
  unfold FX12_sky at h
  refine x_aload_n dX12_sky_0 rfl 1 rfl ?_
  refine x_iconst dX12_sky_1 kc_0 2 rfl ?_
  refine pf12_0 dX12_sky_2 5 rfl hk_l0 kw5_159 (x_mem (fun M1 hM1 => ?_))
  have h := h M1 hM1
  refine x_aload_n dX12_sky_5 rfl 6 rfl ?_
  refine x_iload_n dX12_sky_6 rfl 7 rfl ?_
  refine kX12_skyOf dX12_sky_7 10 rfl hk_l0 kw7_82 (Nat.le_of_ble_eq_true rfl) (Nat.le_of_ble_eq_true rfl) h (fun r2 h => ?_)
  exact x_iret dX12_sky_10 h
theorem cX12_sky_ {Q : Int32 → Mem → Prop} {l0 : Nat} {l1 : Int32} {M : Mem} (hk_l0 : SHk l0 = 12) (h : FX12_sky Q l0 l1 M) : xM yX12_sky cX12_sky 2 (some .int) 2 [.ref l0, .int l1] M (xQi Q) := xM_of (by decide +kernel) (Nat.le_of_ble_eq_true rfl) (eX12_sky hk_l0 h)
theorem kX12_sky {own : String} {cc : ByteArray} {nL : Nat} {rt : Option FieldType} {d pc ix : Nat} {L : List (Nat × Value)} {st : List Value} {M : Mem} {Rt : xGt → Array Value → State → Outcome → State → Prop} {Q : Int32 → Mem → Prop} {l0 : Nat} {l1 : Int32} (hd : decode cc pc = .ok (.invokevirtual ix, 3)) (q : Nat) (hq : pc + 3 = q) (hk_l0 : SHk l0 = 12) (w1 : Cond.methodLink own ix yX12_sky ∈ xTs) (hr : 2 < d) (hst : (st.map fun v => v.category).sum ≤ 8) (h : FX12_sky Q l0 l1 M) (k : ∀ (r : Int32) (N : Mem), Q r N → xX own cc nL rt d q L (.int r :: st) N Rt) : xX own cc nL rt d pc L (.int l1 :: .ref l0 :: st) M Rt :=
  x_callV_i (n := 1) (As := [.int l1]) hd q hq hk_l0 (by decide) rfl rfl w1 kw7_181 kw7_182 kw1_14 kw7_183 (by decide +kernel) rfl hr (by decide) hst _ rfl (cX12_sky_ hk_l0 h) k
def FX12_book (Q : Int32 → Mem → Prop) (l0 : Nat) (l1 : Int32) (l2 : Int32) (M : Mem) : Prop :=
  ∀ M1 : Mem, M1 = xu M l0 0 0 → FX12_isIn (fun (r2 : Bool) => ((r2 = false → Q (-100) M1) ∧ (r2 = true → FX12_isIn (fun (r3 : Bool) => ((r3 = false → Q (-100) M1) ∧ (r3 = true → vp_in ((4 * l1) + l2) 600 ∧ Q (M1 (l0 + 5) (ix ((4 * l1) + l2))) M1))) l0 l2 0 3 M1))) l0 l1 0 ((M1 (l0 + 1) 2) - 1) M1
theorem eX12_book {Q : Int32 → Mem → Prop} {l0 : Nat} {l1 : Int32} {l2 : Int32} {M : Mem} (hk_l0 : SHk l0 = 12) (h : FX12_book Q l0 l1 l2 M) : xX RX12 cX12_book 3 (some .int) 2 0 [(0, .ref l0), (1, .int l1), (2, .int l2)] [] M (xQi Q) := by
  unfold FX12_book at h
  refine x_aload_n dX12_book_0 rfl 1 rfl ?_
  refine x_iconst dX12_book_1 kc_0 2 rfl ?_
  refine pf12_0 dX12_book_2 5 rfl hk_l0 kw5_159 (x_mem (fun M1 hM1 => ?_))
  have h := h M1 hM1
  refine x_aload_n dX12_book_5 rfl 6 rfl ?_
  refine x_iload_n dX12_book_6 rfl 7 rfl ?_
  refine x_iconst dX12_book_7 kc_0 8 rfl ?_
  refine x_aload_n dX12_book_8 rfl 9 rfl ?_
  refine gf12_1 dX12_book_9 12 rfl hk_l0 kw5_160 ?_
  refine x_iconst dX12_book_12 kc_2 13 rfl ?_
  refine x_iaload dX12_book_13 (ly12_1 hk_l0) (by unfold vp_in; decide) 14 rfl ?_
  refine x_iconst dX12_book_14 kc_1 15 rfl ?_
  refine x_isub dX12_book_15 16 rfl ?_
  refine kX12_isIn dX12_book_16 19 rfl hk_l0 kw6_82 (Nat.le_of_ble_eq_true rfl) (Nat.le_of_ble_eq_true rfl) h (fun r2 h => ?_)
  refine x_if_eq_b dX12_book_19 45 22 rfl rfl (fun hc => ?_) (fun hc => ?_)
  · have h := h.1 hc
    refine x_bipush dX12_book_45 kb_m100 47 rfl ?_
    exact x_iret dX12_book_47 h
  · have h := h.2 hc
    refine x_aload_n dX12_book_22 rfl 23 rfl ?_
    refine x_iload_n dX12_book_23 rfl 24 rfl ?_
    refine x_iconst dX12_book_24 kc_0 25 rfl ?_
    refine x_iconst dX12_book_25 kc_3 26 rfl ?_
    refine kX12_isIn dX12_book_26 29 rfl hk_l0 kw6_82 (Nat.le_of_ble_eq_true rfl) (Nat.le_of_ble_eq_true rfl) h (fun r3 h => ?_)
    refine x_if_eq_b dX12_book_29 45 32 rfl rfl (fun hc => ?_) (fun hc => ?_)
    · have h := h.1 hc
      refine x_bipush dX12_book_45 kb_m100 47 rfl ?_
      exact x_iret dX12_book_47 h
    · have h := h.2 hc
      refine x_aload_n dX12_book_32 rfl 33 rfl ?_
      refine gf12_9 dX12_book_33 36 rfl hk_l0 kw5_168 ?_
      refine x_iconst dX12_book_36 kc_4 37 rfl ?_
      refine x_iload_n dX12_book_37 rfl 38 rfl ?_
      refine x_imul dX12_book_38 39 rfl ?_
      refine x_iload_n dX12_book_39 rfl 40 rfl ?_
      refine x_iadd dX12_book_40 41 rfl ?_
      obtain ⟨hin, h⟩ := h
      refine x_iaload dX12_book_41 (ly12_9 hk_l0) hin 42 rfl ?_
      refine x_goto dX12_book_42 47 rfl ?_
      exact x_iret dX12_book_47 h
theorem cX12_book_ {Q : Int32 → Mem → Prop} {l0 : Nat} {l1 : Int32} {l2 : Int32} {M : Mem} (hk_l0 : SHk l0 = 12) (h : FX12_book Q l0 l1 l2 M) : xM yX12_book cX12_book 3 (some .int) 2 [.ref l0, .int l1, .int l2] M (xQi Q) := xM_of (by decide +kernel) (Nat.le_of_ble_eq_true rfl) (eX12_book hk_l0 h)
theorem kX12_book {own : String} {cc : ByteArray} {nL : Nat} {rt : Option FieldType} {d pc ix : Nat} {L : List (Nat × Value)} {st : List Value} {M : Mem} {Rt : xGt → Array Value → State → Outcome → State → Prop} {Q : Int32 → Mem → Prop} {l0 : Nat} {l1 : Int32} {l2 : Int32} (hd : decode cc pc = .ok (.invokevirtual ix, 3)) (q : Nat) (hq : pc + 3 = q) (hk_l0 : SHk l0 = 12) (w1 : Cond.methodLink own ix yX12_book ∈ xTs) (hr : 2 < d) (hst : (st.map fun v => v.category).sum ≤ 8) (h : FX12_book Q l0 l1 l2 M) (k : ∀ (r : Int32) (N : Mem), Q r N → xX own cc nL rt d q L (.int r :: st) N Rt) : xX own cc nL rt d pc L (.int l2 :: .int l1 :: .ref l0 :: st) M Rt :=
  x_callV_i (n := 2) (As := [.int l1, .int l2]) hd q hq hk_l0 (by decide) rfl rfl w1 kw7_185 kw7_186 kw1_14 kw7_187 (by decide +kernel) rfl hr (by decide) hst _ rfl (cX12_book_ hk_l0 h) k
def lbX12_deadSet_4 (Q : Int32 → Prop) (l0 : Nat) (M : Mem) (B4 : Int32 → Int32 → Prop) (l1 : Int32) (l2 : Int32) : Prop :=
  (((M l0 7) ≤ l2 → Q l1) ∧ (¬ (M l0 7) ≤ l2 → vp_in (49 + l2) 107 ∧ ((¬ (M (l0 + 1) (ix (49 + l2))) = 1 → B4 l1 (l2 + 1)) ∧ ((M (l0 + 1) (ix (49 + l2))) = 1 → ∀ y1 : Int32, y1 = l1 ||| ((1 : Int32) <<< (l2 &&& 31)) → B4 y1 (l2 + 1)))))
def NX12_deadSet_4 (Q : Int32 → Prop) (l0 : Nat) (l1 : Int32) (l2 : Int32) (M : Mem) : Prop := xlp (fun (B : Int32 × Int32 → Prop) a => lbX12_deadSet_4 Q l0 M (fun l1 l2 => B (l1, l2)) a.1 a.2) (l1, l2)
theorem nX12_deadSet_4 {Q : Int32 → Prop} {l0 : Nat} {l1 : Int32} {l2 : Int32} {M : Mem} (hk_l0 : SHk l0 = 12) (h : NX12_deadSet_4 Q l0 l1 l2 M) : xX RX12 cX12_deadSet 3 (some .int) 1 4 [(0, .ref l0), (1, .int l1), (2, .int l2)] [] M (xQi (xP M Q)) := by
  obtain ⟨n, h⟩ := h
  have hB4 : ∀ (n : Nat) (l1 : Int32) (l2 : Int32), xlpn (fun (B : Int32 × Int32 → Prop) a => lbX12_deadSet_4 Q l0 M (fun l1 l2 => B (l1, l2)) a.1 a.2) n (l1, l2) → xX RX12 cX12_deadSet 3 (some .int) 1 4 [(0, .ref l0), (1, .int l1), (2, .int l2)] [] M (xQi (xP M Q)) := by
    intro n
    induction n with
    | zero => intro l1 l2 h; exact False.elim h
    | succ n ih =>
      intro l1 l2 h
      have hB4 := ih
      have h : lbX12_deadSet_4 Q l0 M (fun l1 l2 => xlpn (fun (B : Int32 × Int32 → Prop) a => lbX12_deadSet_4 Q l0 M (fun l1 l2 => B (l1, l2)) a.1 a.2) n (l1, l2)) l1 l2 := h
      unfold lbX12_deadSet_4 at h
      refine x_iload_n dX12_deadSet_4 rfl 5 rfl ?_
      refine x_aload_n dX12_deadSet_5 rfl 6 rfl ?_
      refine gf12_7 dX12_deadSet_6 9 rfl hk_l0 kw5_166 ?_
      refine x_icmp_ge dX12_deadSet_9 37 12 rfl rfl (fun hc => ?_) (fun hc => ?_)
      · have h := h.1 hc
        refine x_iload_n dX12_deadSet_37 rfl 38 rfl ?_
        exact x_iret dX12_deadSet_38 ⟨rfl, h⟩
      · have h := h.2 hc
        refine x_aload_n dX12_deadSet_12 rfl 13 rfl ?_
        refine gf12_1 dX12_deadSet_13 16 rfl hk_l0 kw5_160 ?_
        refine x_bipush dX12_deadSet_16 kb_49 18 rfl ?_
        refine x_iload_n dX12_deadSet_18 rfl 19 rfl ?_
        refine x_iadd dX12_deadSet_19 20 rfl ?_
        obtain ⟨hin, h⟩ := h
        refine x_iaload dX12_deadSet_20 (ly12_1 hk_l0) hin 21 rfl ?_
        refine x_iconst dX12_deadSet_21 kc_1 22 rfl ?_
        refine x_icmp_ne dX12_deadSet_22 31 25 rfl rfl (fun hc => ?_) (fun hc => ?_)
        · have h := h.1 hc
          refine x_iinc dX12_deadSet_31 rfl (congrArg (l2 + ·) kc_1) (Nat.le_of_ble_eq_true rfl) [(0, .ref l0), (1, .int l1), (2, .int (l2 + 1))] rfl 34 rfl ?_
          refine x_goto dX12_deadSet_34 4 rfl ?_
          exact hB4 _ _ h
        · have h := h.2 hc
          refine x_iload_n dX12_deadSet_25 rfl 26 rfl ?_
          refine x_iconst dX12_deadSet_26 kc_1 27 rfl ?_
          refine x_iload_n dX12_deadSet_27 rfl 28 rfl ?_
          refine x_ishl dX12_deadSet_28 29 rfl ?_
          refine x_ior dX12_deadSet_29 30 rfl ?_
          refine x_top (fun y1 hy1 => ?_)
          have h := h y1 hy1
          refine x_istore_n dX12_deadSet_30 (Nat.le_of_ble_eq_true rfl) [(0, .ref l0), (1, .int y1), (2, .int l2)] rfl 31 rfl ?_
          refine x_iinc dX12_deadSet_31 rfl (congrArg (l2 + ·) kc_1) (Nat.le_of_ble_eq_true rfl) [(0, .ref l0), (1, .int y1), (2, .int (l2 + 1))] rfl 34 rfl ?_
          refine x_goto dX12_deadSet_34 4 rfl ?_
          exact hB4 _ _ h
  exact hB4 n l1 l2 h
def FX12_deadSet (Q : Int32 → Prop) (l0 : Nat) (M : Mem) : Prop :=
  NX12_deadSet_4 Q l0 0 0 M
theorem eX12_deadSet {Q : Int32 → Prop} {l0 : Nat} {M : Mem} (hk_l0 : SHk l0 = 12) (h : FX12_deadSet Q l0 M) : xX RX12 cX12_deadSet 3 (some .int) 1 0 [(0, .ref l0)] [] M (xQi (xP M Q)) := by
  unfold FX12_deadSet at h
  refine x_iconst dX12_deadSet_0 kc_0 1 rfl ?_
  refine x_istore_n dX12_deadSet_1 (Nat.le_of_ble_eq_true rfl) [(0, .ref l0), (1, .int 0)] rfl 2 rfl ?_
  refine x_iconst dX12_deadSet_2 kc_0 3 rfl ?_
  refine x_istore_n dX12_deadSet_3 (Nat.le_of_ble_eq_true rfl) [(0, .ref l0), (1, .int 0), (2, .int 0)] rfl 4 rfl ?_
  exact nX12_deadSet_4 hk_l0 h
theorem cX12_deadSet_ {Q : Int32 → Prop} {l0 : Nat} {M : Mem} (hk_l0 : SHk l0 = 12) (h : FX12_deadSet Q l0 M) : xM yX12_deadSet cX12_deadSet 3 (some .int) 1 [.ref l0] M (xQi (xP M Q)) := xM_of (by decide +kernel) (Nat.le_of_ble_eq_true rfl) (eX12_deadSet hk_l0 h)
theorem kX12_deadSet {own : String} {cc : ByteArray} {nL : Nat} {rt : Option FieldType} {d pc ix : Nat} {L : List (Nat × Value)} {st : List Value} {M : Mem} {Rt : xGt → Array Value → State → Outcome → State → Prop} {Q : Int32 → Prop} {l0 : Nat} (hd : decode cc pc = .ok (.invokevirtual ix, 3)) (q : Nat) (hq : pc + 3 = q) (hk_l0 : SHk l0 = 12) (w1 : Cond.methodLink own ix yX12_deadSet ∈ xTs) (hr : 1 < d) (hst : (st.map fun v => v.category).sum ≤ 8) (h : FX12_deadSet Q l0 M) (k : ∀ (r : Int32), Q r → xX own cc nL rt d q L (.int r :: st) M Rt) : xX own cc nL rt d pc L (.ref l0 :: st) M Rt :=
  x_callV_i (n := 0) (As := []) hd q hq hk_l0 (by decide) rfl rfl w1 kw7_198 ks7_12 kw1_14 kw7_199 (by decide +kernel) rfl hr (by decide) hst _ rfl (cX12_deadSet_ hk_l0 h) (fun r N hN => by obtain ⟨rfl, hN⟩ := hN; exact k r hN)
def NX12_goes_163 (Q : Int32 → Mem → Prop) (l0 : Nat) (s0 : Int32) (M : Mem) : Prop :=
  FX12_endsThought (fun (M1 : Mem) => Q s0 M1) l0 M
theorem nX12_goes_163 {Q : Int32 → Mem → Prop} {l0 : Nat} {s0 : Int32} {M : Mem} (hk_l0 : SHk l0 = 12) (h : NX12_goes_163 Q l0 s0 M) : xX RX12 cX12_goes 6 (some .int) 9 163 [(0, .ref l0)] [.int s0] M (xQi Q) := by
  unfold NX12_goes_163 at h
  refine x_istore dX12_goes_163 (Nat.le_of_ble_eq_true rfl) [(0, .ref l0), (5, .int s0)] rfl 165 rfl ?_
  refine x_aload_n dX12_goes_165 rfl 166 rfl ?_
  refine kX12_endsThought dX12_goes_166 169 rfl hk_l0 kw7_204 (Nat.le_of_ble_eq_true rfl) (Nat.le_of_ble_eq_true rfl) h (fun M1 h => ?_)
  refine x_iload dX12_goes_169 rfl 171 rfl ?_
  exact x_iret dX12_goes_171 h
def NX12_goes_121 (Q : Int32 → Mem → Prop) (l0 : Nat) (l2 : Int32) (l3 : Int32) (s0 : Int32) (M : Mem) : Prop :=
  ((¬ l2 = 0 → ((¬ l2 = 1 → ((¬ l2 = 2 → NX12_goes_163 Q l0 s0 M) ∧ (l2 = 2 → NX12_goes_163 Q l0 l3 M))) ∧ (l2 = 1 → NX12_goes_163 Q l0 (M (l0 + 1) 4) M))) ∧ (l2 = 0 → FX12_deadSet (fun (r2 : Int32) => FX12_onesOf (fun (r3 : Int32) => NX12_goes_163 Q l0 r3 M) l0 r2 M) l0 M))
theorem nX12_goes_121 {Q : Int32 → Mem → Prop} {l0 : Nat} {l2 : Int32} {l3 : Int32} {s0 : Int32} {M : Mem} (hk_l0 : SHk l0 = 12) (h : NX12_goes_121 Q l0 l2 l3 s0 M) : xX RX12 cX12_goes 6 (some .int) 9 121 [(0, .ref l0), (2, .int l2), (3, .int l3)] [.int s0] M (xQi Q) := by
  unfold NX12_goes_121 at h
  refine x_istore dX12_goes_121 (Nat.le_of_ble_eq_true rfl) [(0, .ref l0), (2, .int l2), (3, .int l3), (4, .int s0)] rfl 123 rfl ?_
  refine x_iload_n dX12_goes_123 rfl 124 rfl ?_
  refine x_if_ne dX12_goes_124 138 127 rfl rfl (fun hc => ?_) (fun hc => ?_)
  · have h := h.1 hc
    refine x_iload_n dX12_goes_138 rfl 139 rfl ?_
    refine x_iconst dX12_goes_139 kc_1 140 rfl ?_
    refine x_icmp_ne dX12_goes_140 152 143 rfl rfl (fun hc => ?_) (fun hc => ?_)
    · have h := h.1 hc
      refine x_iload_n dX12_goes_152 rfl 153 rfl ?_
      refine x_iconst dX12_goes_153 kc_2 154 rfl ?_
      refine x_icmp_ne dX12_goes_154 161 157 rfl rfl (fun hc => ?_) (fun hc => ?_)
      · have h := h.1 hc
        refine x_iload dX12_goes_161 rfl 163 rfl ?_
        refine x_weak [(0, .ref l0)] [0] rfl ?_
        exact nX12_goes_163 hk_l0 h
      · have h := h.2 hc
        refine x_iload_n dX12_goes_157 rfl 158 rfl ?_
        refine x_goto dX12_goes_158 163 rfl ?_
        refine x_weak [(0, .ref l0)] [0] rfl ?_
        exact nX12_goes_163 hk_l0 h
    · have h := h.2 hc
      refine x_aload_n dX12_goes_143 rfl 144 rfl ?_
      refine gf12_1 dX12_goes_144 147 rfl hk_l0 kw5_160 ?_
      refine x_iconst dX12_goes_147 kc_4 148 rfl ?_
      refine x_iaload dX12_goes_148 (ly12_1 hk_l0) (by unfold vp_in; decide) 149 rfl ?_
      refine x_goto dX12_goes_149 163 rfl ?_
      refine x_weak [(0, .ref l0)] [0] rfl ?_
      exact nX12_goes_163 hk_l0 h
  · have h := h.2 hc
    refine x_aload_n dX12_goes_127 rfl 128 rfl ?_
    refine x_aload_n dX12_goes_128 rfl 129 rfl ?_
    refine kX12_deadSet dX12_goes_129 132 rfl hk_l0 kw7_196 (Nat.le_of_ble_eq_true rfl) (Nat.le_of_ble_eq_true rfl) h (fun r2 h => ?_)
    refine kX12_onesOf dX12_goes_132 135 rfl hk_l0 kw7_200 (Nat.le_of_ble_eq_true rfl) (Nat.le_of_ble_eq_true rfl) h (fun r3 h => ?_)
    refine x_goto dX12_goes_135 163 rfl ?_
    refine x_weak [(0, .ref l0)] [0] rfl ?_
    exact nX12_goes_163 hk_l0 h
def lbX12_goes_56 (Q : Int32 → Mem → Prop) (l0 : Nat) (l2 : Int32) (M : Mem) (B56 : Int32 → Int32 → Prop) (l3 : Int32) (l4 : Int32) : Prop :=
  (((M l0 7) ≤ l4 → ((¬ (M (l0 + 1) 83) = 0 → NX12_goes_121 Q l0 l2 l3 ((M (l0 + 1) 83) - 100) M) ∧ ((M (l0 + 1) 83) = 0 → NX12_goes_121 Q l0 l2 l3 0 M))) ∧ (¬ (M l0 7) ≤ l4 → vp_in (49 + l4) 107 ∧ ((¬ (M (l0 + 1) (ix (49 + l4))) = 0 → B56 l3 (l4 + 1)) ∧ ((M (l0 + 1) (ix (49 + l4))) = 0 → vp_in (35 + l4) 107 ∧ ∀ y4 : Int32, y4 = l3 + (M (l0 + 1) (ix (35 + l4))) → B56 y4 (l4 + 1)))))
def NX12_goes_56 (Q : Int32 → Mem → Prop) (l0 : Nat) (l2 : Int32) (l3 : Int32) (l4 : Int32) (M : Mem) : Prop := xlp (fun (B : Int32 × Int32 → Prop) a => lbX12_goes_56 Q l0 l2 M (fun l3 l4 => B (l3, l4)) a.1 a.2) (l3, l4)
theorem nX12_goes_56 {Q : Int32 → Mem → Prop} {l0 : Nat} {l2 : Int32} {l3 : Int32} {l4 : Int32} {M : Mem} (hk_l0 : SHk l0 = 12) (h : NX12_goes_56 Q l0 l2 l3 l4 M) : xX RX12 cX12_goes 6 (some .int) 9 56 [(0, .ref l0), (2, .int l2), (3, .int l3), (4, .int l4)] [] M (xQi Q) := by
  obtain ⟨n, h⟩ := h
  have hB56 : ∀ (n : Nat) (l3 : Int32) (l4 : Int32), xlpn (fun (B : Int32 × Int32 → Prop) a => lbX12_goes_56 Q l0 l2 M (fun l3 l4 => B (l3, l4)) a.1 a.2) n (l3, l4) → xX RX12 cX12_goes 6 (some .int) 9 56 [(0, .ref l0), (2, .int l2), (3, .int l3), (4, .int l4)] [] M (xQi Q) := by
    intro n
    induction n with
    | zero => intro l3 l4 h; exact False.elim h
    | succ n ih =>
      intro l3 l4 h
      have hB56 := ih
      have h : lbX12_goes_56 Q l0 l2 M (fun l3 l4 => xlpn (fun (B : Int32 × Int32 → Prop) a => lbX12_goes_56 Q l0 l2 M (fun l3 l4 => B (l3, l4)) a.1 a.2) n (l3, l4)) l3 l4 := h
      unfold lbX12_goes_56 at h
      refine x_iload dX12_goes_56 rfl 58 rfl ?_
      refine x_aload_n dX12_goes_58 rfl 59 rfl ?_
      refine gf12_7 dX12_goes_59 62 rfl hk_l0 kw5_166 ?_
      refine x_icmp_ge dX12_goes_62 97 65 rfl rfl (fun hc => ?_) (fun hc => ?_)
      · have h := h.1 hc
        refine x_aload_n dX12_goes_97 rfl 98 rfl ?_
        refine gf12_1 dX12_goes_98 101 rfl hk_l0 kw5_160 ?_
        refine x_bipush dX12_goes_101 kb_83 103 rfl ?_
        refine x_iaload dX12_goes_103 (ly12_1 hk_l0) (by unfold vp_in; decide) 104 rfl ?_
        refine x_if_ne dX12_goes_104 111 107 rfl rfl (fun hc => ?_) (fun hc => ?_)
        · have h := h.1 hc
          refine x_aload_n dX12_goes_111 rfl 112 rfl ?_
          refine gf12_1 dX12_goes_112 115 rfl hk_l0 kw5_160 ?_
          refine x_bipush dX12_goes_115 kb_83 117 rfl ?_
          refine x_iaload dX12_goes_117 (ly12_1 hk_l0) (by unfold vp_in; decide) 118 rfl ?_
          refine x_bipush dX12_goes_118 kb_100 120 rfl ?_
          refine x_isub dX12_goes_120 121 rfl ?_
          refine x_weak [(0, .ref l0), (2, .int l2), (3, .int l3)] [0, 1, 2] rfl ?_
          exact nX12_goes_121 hk_l0 h
        · have h := h.2 hc
          refine x_iconst dX12_goes_107 kc_0 108 rfl ?_
          refine x_goto dX12_goes_108 121 rfl ?_
          refine x_weak [(0, .ref l0), (2, .int l2), (3, .int l3)] [0, 1, 2] rfl ?_
          exact nX12_goes_121 hk_l0 h
      · have h := h.2 hc
        refine x_aload_n dX12_goes_65 rfl 66 rfl ?_
        refine gf12_1 dX12_goes_66 69 rfl hk_l0 kw5_160 ?_
        refine x_bipush dX12_goes_69 kb_49 71 rfl ?_
        refine x_iload dX12_goes_71 rfl 73 rfl ?_
        refine x_iadd dX12_goes_73 74 rfl ?_
        obtain ⟨hin, h⟩ := h
        refine x_iaload dX12_goes_74 (ly12_1 hk_l0) hin 75 rfl ?_
        refine x_if_ne dX12_goes_75 91 78 rfl rfl (fun hc => ?_) (fun hc => ?_)
        · have h := h.1 hc
          refine x_iinc dX12_goes_91 rfl (congrArg (l4 + ·) kc_1) (Nat.le_of_ble_eq_true rfl) [(0, .ref l0), (2, .int l2), (3, .int l3), (4, .int (l4 + 1))] rfl 94 rfl ?_
          refine x_goto dX12_goes_94 56 rfl ?_
          exact hB56 _ _ h
        · have h := h.2 hc
          refine x_iload_n dX12_goes_78 rfl 79 rfl ?_
          refine x_aload_n dX12_goes_79 rfl 80 rfl ?_
          refine gf12_1 dX12_goes_80 83 rfl hk_l0 kw5_160 ?_
          refine x_bipush dX12_goes_83 kb_35 85 rfl ?_
          refine x_iload dX12_goes_85 rfl 87 rfl ?_
          refine x_iadd dX12_goes_87 88 rfl ?_
          obtain ⟨hin, h⟩ := h
          refine x_iaload dX12_goes_88 (ly12_1 hk_l0) hin 89 rfl ?_
          refine x_iadd dX12_goes_89 90 rfl ?_
          refine x_top (fun y4 hy4 => ?_)
          have h := h y4 hy4
          refine x_istore_n dX12_goes_90 (Nat.le_of_ble_eq_true rfl) [(0, .ref l0), (2, .int l2), (3, .int y4), (4, .int l4)] rfl 91 rfl ?_
          refine x_iinc dX12_goes_91 rfl (congrArg (l4 + ·) kc_1) (Nat.le_of_ble_eq_true rfl) [(0, .ref l0), (2, .int l2), (3, .int y4), (4, .int (l4 + 1))] rfl 94 rfl ?_
          refine x_goto dX12_goes_94 56 rfl ?_
          exact hB56 _ _ h
  exact hB56 n l3 l4 h
def lbX12_goes_35 (Q : Int32 → Mem → Prop) (l0 : Nat) (l1 : Int32) (l2 : Int32) (B35 : Int32 → Mem → Prop) (l3 : Int32) (M : Mem) : Prop :=
  ((l1 ≤ l3 → NX12_goes_56 Q l0 l2 0 0 M) ∧ (¬ l1 ≤ l3 → FX12_goesBy (fun (r6 : Int32) (M5 : Mem) => B35 (l3 + 1) M5) l0 M))
def NX12_goes_35 (Q : Int32 → Mem → Prop) (l0 : Nat) (l1 : Int32) (l2 : Int32) (l3 : Int32) (M : Mem) : Prop := xlp (fun (B : Int32 × Mem → Prop) a => lbX12_goes_35 Q l0 l1 l2 (fun l3 M => B (l3, M)) a.1 a.2) (l3, M)
theorem nX12_goes_35 {Q : Int32 → Mem → Prop} {l0 : Nat} {l1 : Int32} {l2 : Int32} {l3 : Int32} {M : Mem} (hk_l0 : SHk l0 = 12) (h : NX12_goes_35 Q l0 l1 l2 l3 M) : xX RX12 cX12_goes 6 (some .int) 9 35 [(0, .ref l0), (1, .int l1), (2, .int l2), (3, .int l3)] [] M (xQi Q) := by
  obtain ⟨n, h⟩ := h
  have hB35 : ∀ (n : Nat) (l3 : Int32) (M : Mem), xlpn (fun (B : Int32 × Mem → Prop) a => lbX12_goes_35 Q l0 l1 l2 (fun l3 M => B (l3, M)) a.1 a.2) n (l3, M) → xX RX12 cX12_goes 6 (some .int) 9 35 [(0, .ref l0), (1, .int l1), (2, .int l2), (3, .int l3)] [] M (xQi Q) := by
    intro n
    induction n with
    | zero => intro l3 M h; exact False.elim h
    | succ n ih =>
      intro l3 M h
      have hB35 := ih
      have h : lbX12_goes_35 Q l0 l1 l2 (fun l3 M => xlpn (fun (B : Int32 × Mem → Prop) a => lbX12_goes_35 Q l0 l1 l2 (fun l3 M => B (l3, M)) a.1 a.2) n (l3, M)) l3 M := h
      unfold lbX12_goes_35 at h
      refine x_iload_n dX12_goes_35 rfl 36 rfl ?_
      refine x_iload_n dX12_goes_36 rfl 37 rfl ?_
      refine x_icmp_ge dX12_goes_37 51 40 rfl rfl (fun hc => ?_) (fun hc => ?_)
      · have h := h.1 hc
        refine x_iconst dX12_goes_51 kc_0 52 rfl ?_
        refine x_istore_n dX12_goes_52 (Nat.le_of_ble_eq_true rfl) [(0, .ref l0), (1, .int l1), (2, .int l2), (3, .int 0)] rfl 53 rfl ?_
        refine x_iconst dX12_goes_53 kc_0 54 rfl ?_
        refine x_istore dX12_goes_54 (Nat.le_of_ble_eq_true rfl) [(0, .ref l0), (1, .int l1), (2, .int l2), (3, .int 0), (4, .int 0)] rfl 56 rfl ?_
        refine x_weak [(0, .ref l0), (2, .int l2), (3, .int 0), (4, .int 0)] [0, 2, 3, 4] rfl ?_
        exact nX12_goes_56 hk_l0 h
      · have h := h.2 hc
        refine x_aload_n dX12_goes_40 rfl 41 rfl ?_
        refine kX12_goesBy dX12_goes_41 44 rfl hk_l0 kw7_74 (Nat.le_of_ble_eq_true rfl) (Nat.le_of_ble_eq_true rfl) h (fun r6 M5 h => ?_)
        refine x_pop dX12_goes_44 rfl 45 rfl ?_
        refine x_iinc dX12_goes_45 rfl (congrArg (l3 + ·) kc_1) (Nat.le_of_ble_eq_true rfl) [(0, .ref l0), (1, .int l1), (2, .int l2), (3, .int (l3 + 1))] rfl 48 rfl ?_
        refine x_goto dX12_goes_48 35 rfl ?_
        exact hB35 _ _ h
  exact hB35 n l3 M h
def FX12_goes (Q : Int32 → Mem → Prop) (l0 : Nat) (l1 : Int32) (l2 : Int32) (M : Mem) : Prop :=
  ∀ M7 : Mem, M7 = xu M l0 0 0 → FX12_isIn (fun (r8 : Bool) => ((r8 = false → Q (-100) M7) ∧ (r8 = true → FX12_isIn (fun (r9 : Bool) => ((r9 = true → FX12_thinks (fun (M10 : Mem) => NX12_goes_35 Q l0 l1 l2 0 M10) l0 M7) ∧ (r9 = false → Q (-100) M7))) l0 l2 0 3 M7))) l0 l1 1 60 M7
theorem eX12_goes {Q : Int32 → Mem → Prop} {l0 : Nat} {l1 : Int32} {l2 : Int32} {M : Mem} (hk_l0 : SHk l0 = 12) (h : FX12_goes Q l0 l1 l2 M) : xX RX12 cX12_goes 6 (some .int) 9 0 [(0, .ref l0), (1, .int l1), (2, .int l2)] [] M (xQi Q) := by
  unfold FX12_goes at h
  refine x_aload_n dX12_goes_0 rfl 1 rfl ?_
  refine x_iconst dX12_goes_1 kc_0 2 rfl ?_
  refine pf12_0 dX12_goes_2 5 rfl hk_l0 kw5_159 (x_mem (fun M7 hM7 => ?_))
  have h := h M7 hM7
  refine x_aload_n dX12_goes_5 rfl 6 rfl ?_
  refine x_iload_n dX12_goes_6 rfl 7 rfl ?_
  refine x_iconst dX12_goes_7 kc_1 8 rfl ?_
  refine x_bipush dX12_goes_8 kb_60 10 rfl ?_
  refine kX12_isIn dX12_goes_10 13 rfl hk_l0 kw6_82 (Nat.le_of_ble_eq_true rfl) (Nat.le_of_ble_eq_true rfl) h (fun r8 h => ?_)
  refine x_if_eq_b dX12_goes_13 26 16 rfl rfl (fun hc => ?_) (fun hc => ?_)
  · have h := h.1 hc
    refine x_bipush dX12_goes_26 kb_m100 28 rfl ?_
    exact x_iret dX12_goes_28 h
  · have h := h.2 hc
    refine x_aload_n dX12_goes_16 rfl 17 rfl ?_
    refine x_iload_n dX12_goes_17 rfl 18 rfl ?_
    refine x_iconst dX12_goes_18 kc_0 19 rfl ?_
    refine x_iconst dX12_goes_19 kc_3 20 rfl ?_
    refine kX12_isIn dX12_goes_20 23 rfl hk_l0 kw6_82 (Nat.le_of_ble_eq_true rfl) (Nat.le_of_ble_eq_true rfl) h (fun r9 h => ?_)
    refine x_if_ne_b dX12_goes_23 29 26 rfl rfl (fun hc => ?_) (fun hc => ?_)
    · have h := h.1 hc
      refine x_aload_n dX12_goes_29 rfl 30 rfl ?_
      refine kX12_thinks dX12_goes_30 33 rfl hk_l0 kw7_192 (Nat.le_of_ble_eq_true rfl) (Nat.le_of_ble_eq_true rfl) h (fun M10 h => ?_)
      refine x_iconst dX12_goes_33 kc_0 34 rfl ?_
      refine x_istore_n dX12_goes_34 (Nat.le_of_ble_eq_true rfl) [(0, .ref l0), (1, .int l1), (2, .int l2), (3, .int 0)] rfl 35 rfl ?_
      exact nX12_goes_35 hk_l0 h
    · have h := h.2 hc
      refine x_bipush dX12_goes_26 kb_m100 28 rfl ?_
      exact x_iret dX12_goes_28 h
theorem cX12_goes_ {Q : Int32 → Mem → Prop} {l0 : Nat} {l1 : Int32} {l2 : Int32} {M : Mem} (hk_l0 : SHk l0 = 12) (h : FX12_goes Q l0 l1 l2 M) : xM yX12_goes cX12_goes 6 (some .int) 9 [.ref l0, .int l1, .int l2] M (xQi Q) := xM_of (by decide +kernel) (Nat.le_of_ble_eq_true rfl) (eX12_goes hk_l0 h)
theorem kX12_goes {own : String} {cc : ByteArray} {nL : Nat} {rt : Option FieldType} {d pc ix : Nat} {L : List (Nat × Value)} {st : List Value} {M : Mem} {Rt : xGt → Array Value → State → Outcome → State → Prop} {Q : Int32 → Mem → Prop} {l0 : Nat} {l1 : Int32} {l2 : Int32} (hd : decode cc pc = .ok (.invokevirtual ix, 3)) (q : Nat) (hq : pc + 3 = q) (hk_l0 : SHk l0 = 12) (w1 : Cond.methodLink own ix yX12_goes ∈ xTs) (hr : 9 < d) (hst : (st.map fun v => v.category).sum ≤ 8) (h : FX12_goes Q l0 l1 l2 M) (k : ∀ (r : Int32) (N : Mem), Q r N → xX own cc nL rt d q L (.int r :: st) N Rt) : xX own cc nL rt d pc L (.int l2 :: .int l1 :: .ref l0 :: st) M Rt :=
  x_callV_i (n := 2) (As := [.int l1, .int l2]) hd q hq hk_l0 (by decide) rfl rfl w1 kw7_189 kw7_190 kw1_14 kw7_191 (by decide +kernel) rfl hr (by decide) hst _ rfl (cX12_goes_ hk_l0 h) k
def lbX12_loaves_9 (Q : Int32 → Mem → Prop) (l0 : Nat) (B9 : Int32 → Int32 → Mem → Prop) (l1 : Int32) (l2 : Int32) (M : Mem) : Prop :=
  (((M l0 6) ≤ l2 → Q l1 M) ∧ (¬ (M l0 6) ≤ l2 → FX12_sitterOf (fun (r1 : Int32) => ((r1 = (-1) → B9 l1 (l2 + 1) M) ∧ (¬ r1 = (-1) → FX12_sitterOf (fun (r2 : Int32) => FX12_eatsOf (fun (r4 : Int32) (M3 : Mem) => B9 (l1 + r4) (l2 + 1) M3) l0 r2 M) l0 l2 M))) l0 l2 M))
def NX12_loaves_9 (Q : Int32 → Mem → Prop) (l0 : Nat) (l1 : Int32) (l2 : Int32) (M : Mem) : Prop := xlp (fun (B : Int32 × Int32 × Mem → Prop) a => lbX12_loaves_9 Q l0 (fun l1 l2 M => B (l1, l2, M)) a.1 a.2.1 a.2.2) (l1, l2, M)
theorem nX12_loaves_9 {Q : Int32 → Mem → Prop} {l0 : Nat} {l1 : Int32} {l2 : Int32} {M : Mem} (hk_l0 : SHk l0 = 12) (h : NX12_loaves_9 Q l0 l1 l2 M) : xX RX12 cX12_loaves 3 (some .int) 6 9 [(0, .ref l0), (1, .int l1), (2, .int l2)] [] M (xQi Q) := by
  obtain ⟨n, h⟩ := h
  have hB9 : ∀ (n : Nat) (l1 : Int32) (l2 : Int32) (M : Mem), xlpn (fun (B : Int32 × Int32 × Mem → Prop) a => lbX12_loaves_9 Q l0 (fun l1 l2 M => B (l1, l2, M)) a.1 a.2.1 a.2.2) n (l1, l2, M) → xX RX12 cX12_loaves 3 (some .int) 6 9 [(0, .ref l0), (1, .int l1), (2, .int l2)] [] M (xQi Q) := by
    intro n
    induction n with
    | zero => intro l1 l2 M h; exact False.elim h
    | succ n ih =>
      intro l1 l2 M h
      have hB9 := ih
      have h : lbX12_loaves_9 Q l0 (fun l1 l2 M => xlpn (fun (B : Int32 × Int32 × Mem → Prop) a => lbX12_loaves_9 Q l0 (fun l1 l2 M => B (l1, l2, M)) a.1 a.2.1 a.2.2) n (l1, l2, M)) l1 l2 M := h
      unfold lbX12_loaves_9 at h
      refine x_iload_n dX12_loaves_9 rfl 10 rfl ?_
      refine x_aload_n dX12_loaves_10 rfl 11 rfl ?_
      refine gf12_6 dX12_loaves_11 14 rfl hk_l0 kw5_165 ?_
      refine x_icmp_ge dX12_loaves_14 44 17 rfl rfl (fun hc => ?_) (fun hc => ?_)
      · have h := h.1 hc
        refine x_iload_n dX12_loaves_44 rfl 45 rfl ?_
        exact x_iret dX12_loaves_45 h
      · have h := h.2 hc
        refine x_aload_n dX12_loaves_17 rfl 18 rfl ?_
        refine x_iload_n dX12_loaves_18 rfl 19 rfl ?_
        refine kX12_sitterOf dX12_loaves_19 22 rfl hk_l0 kw6_90 (Nat.le_of_ble_eq_true rfl) (Nat.le_of_ble_eq_true rfl) h (fun r1 h => ?_)
        refine x_iconst dX12_loaves_22 kc_m1 23 rfl ?_
        refine x_icmp_eq dX12_loaves_23 38 26 rfl rfl (fun hc => ?_) (fun hc => ?_)
        · have h := h.1 hc
          refine x_iinc dX12_loaves_38 rfl (congrArg (l2 + ·) kc_1) (Nat.le_of_ble_eq_true rfl) [(0, .ref l0), (1, .int l1), (2, .int (l2 + 1))] rfl 41 rfl ?_
          refine x_goto dX12_loaves_41 9 rfl ?_
          exact hB9 _ _ _ h
        · have h := h.2 hc
          refine x_iload_n dX12_loaves_26 rfl 27 rfl ?_
          refine x_aload_n dX12_loaves_27 rfl 28 rfl ?_
          refine x_aload_n dX12_loaves_28 rfl 29 rfl ?_
          refine x_iload_n dX12_loaves_29 rfl 30 rfl ?_
          refine kX12_sitterOf dX12_loaves_30 33 rfl hk_l0 kw6_90 (Nat.le_of_ble_eq_true rfl) (Nat.le_of_ble_eq_true rfl) h (fun r2 h => ?_)
          refine kX12_eatsOf dX12_loaves_33 36 rfl hk_l0 kw7_94 (Nat.le_of_ble_eq_true rfl) (Nat.le_of_ble_eq_true rfl) h (fun r4 M3 h => ?_)
          refine x_iadd dX12_loaves_36 37 rfl ?_
          refine x_istore_n dX12_loaves_37 (Nat.le_of_ble_eq_true rfl) [(0, .ref l0), (1, .int (l1 + r4)), (2, .int l2)] rfl 38 rfl ?_
          refine x_iinc dX12_loaves_38 rfl (congrArg (l2 + ·) kc_1) (Nat.le_of_ble_eq_true rfl) [(0, .ref l0), (1, .int (l1 + r4)), (2, .int (l2 + 1))] rfl 41 rfl ?_
          refine x_goto dX12_loaves_41 9 rfl ?_
          exact hB9 _ _ _ h
  exact hB9 n l1 l2 M h
def FX12_loaves (Q : Int32 → Mem → Prop) (l0 : Nat) (M : Mem) : Prop :=
  ∀ M5 : Mem, M5 = xu M l0 0 0 → NX12_loaves_9 Q l0 0 0 M5
theorem eX12_loaves {Q : Int32 → Mem → Prop} {l0 : Nat} {M : Mem} (hk_l0 : SHk l0 = 12) (h : FX12_loaves Q l0 M) : xX RX12 cX12_loaves 3 (some .int) 6 0 [(0, .ref l0)] [] M (xQi Q) := by
  unfold FX12_loaves at h
  refine x_aload_n dX12_loaves_0 rfl 1 rfl ?_
  refine x_iconst dX12_loaves_1 kc_0 2 rfl ?_
  refine pf12_0 dX12_loaves_2 5 rfl hk_l0 kw5_159 (x_mem (fun M5 hM5 => ?_))
  have h := h M5 hM5
  refine x_iconst dX12_loaves_5 kc_0 6 rfl ?_
  refine x_istore_n dX12_loaves_6 (Nat.le_of_ble_eq_true rfl) [(0, .ref l0), (1, .int 0)] rfl 7 rfl ?_
  refine x_iconst dX12_loaves_7 kc_0 8 rfl ?_
  refine x_istore_n dX12_loaves_8 (Nat.le_of_ble_eq_true rfl) [(0, .ref l0), (1, .int 0), (2, .int 0)] rfl 9 rfl ?_
  exact nX12_loaves_9 hk_l0 h
theorem cX12_loaves_ {Q : Int32 → Mem → Prop} {l0 : Nat} {M : Mem} (hk_l0 : SHk l0 = 12) (h : FX12_loaves Q l0 M) : xM yX12_loaves cX12_loaves 3 (some .int) 6 [.ref l0] M (xQi Q) := xM_of (by decide +kernel) (Nat.le_of_ble_eq_true rfl) (eX12_loaves hk_l0 h)
theorem kX12_loaves {own : String} {cc : ByteArray} {nL : Nat} {rt : Option FieldType} {d pc ix : Nat} {L : List (Nat × Value)} {st : List Value} {M : Mem} {Rt : xGt → Array Value → State → Outcome → State → Prop} {Q : Int32 → Mem → Prop} {l0 : Nat} (hd : decode cc pc = .ok (.invokevirtual ix, 3)) (q : Nat) (hq : pc + 3 = q) (hk_l0 : SHk l0 = 12) (w1 : Cond.methodLink own ix yX12_loaves ∈ xTs) (hr : 6 < d) (hst : (st.map fun v => v.category).sum ≤ 8) (h : FX12_loaves Q l0 M) (k : ∀ (r : Int32) (N : Mem), Q r N → xX own cc nL rt d q L (.int r :: st) N Rt) : xX own cc nL rt d pc L (.ref l0 :: st) M Rt :=
  x_callV_i (n := 0) (As := []) hd q hq hk_l0 (by decide) rfl rfl w1 kw7_209 kw7_210 kw1_14 kw7_211 (by decide +kernel) rfl hr (by decide) hst _ rfl (cX12_loaves_ hk_l0 h) k
def NX12_heir_79 (Q : Int32 → Mem → Prop) (l0 : Nat) (s0 : Int32) (M : Mem) : Prop :=
  FX12_endsThought (fun (M1 : Mem) => Q s0 M1) l0 M
theorem nX12_heir_79 {Q : Int32 → Mem → Prop} {l0 : Nat} {s0 : Int32} {M : Mem} (hk_l0 : SHk l0 = 12) (h : NX12_heir_79 Q l0 s0 M) : xX RX12 cX12_heir 3 (some .int) 4 79 [(0, .ref l0)] [.int s0] M (xQi Q) := by
  unfold NX12_heir_79 at h
  refine x_istore_n dX12_heir_79 (Nat.le_of_ble_eq_true rfl) [(0, .ref l0), (2, .int s0)] rfl 80 rfl ?_
  refine x_aload_n dX12_heir_80 rfl 81 rfl ?_
  refine kX12_endsThought dX12_heir_81 84 rfl hk_l0 kw7_204 (Nat.le_of_ble_eq_true rfl) (Nat.le_of_ble_eq_true rfl) h (fun M1 h => ?_)
  refine x_iload_n dX12_heir_84 rfl 85 rfl ?_
  exact x_iret dX12_heir_85 h
def NX12_heir_59 (Q : Int32 → Mem → Prop) (l0 : Nat) (M : Mem) : Prop :=
  FX12_highest (fun (r2 : Int32) => ((¬ r2 = (-1) → FX12_highest (fun (r3 : Int32) => FX12_sitterOf (fun (r4 : Int32) => NX12_heir_79 Q l0 r4 M) l0 r3 M) l0 M) ∧ (r2 = (-1) → NX12_heir_79 Q l0 (-1) M))) l0 M
theorem nX12_heir_59 {Q : Int32 → Mem → Prop} {l0 : Nat} {M : Mem} (hk_l0 : SHk l0 = 12) (h : NX12_heir_59 Q l0 M) : xX RX12 cX12_heir 3 (some .int) 4 59 [(0, .ref l0)] [] M (xQi Q) := by
  unfold NX12_heir_59 at h
  refine x_aload_n dX12_heir_59 rfl 60 rfl ?_
  refine kX12_highest dX12_heir_60 63 rfl hk_l0 kw7_42 (Nat.le_of_ble_eq_true rfl) (Nat.le_of_ble_eq_true rfl) h (fun r2 h => ?_)
  refine x_iconst dX12_heir_63 kc_m1 64 rfl ?_
  refine x_icmp_ne dX12_heir_64 71 67 rfl rfl (fun hc => ?_) (fun hc => ?_)
  · have h := h.1 hc
    refine x_aload_n dX12_heir_71 rfl 72 rfl ?_
    refine x_aload_n dX12_heir_72 rfl 73 rfl ?_
    refine kX12_highest dX12_heir_73 76 rfl hk_l0 kw7_42 (Nat.le_of_ble_eq_true rfl) (Nat.le_of_ble_eq_true rfl) h (fun r3 h => ?_)
    refine kX12_sitterOf dX12_heir_76 79 rfl hk_l0 kw6_90 (Nat.le_of_ble_eq_true rfl) (Nat.le_of_ble_eq_true rfl) h (fun r4 h => ?_)
    exact nX12_heir_79 hk_l0 h
  · have h := h.2 hc
    refine x_iconst dX12_heir_67 kc_m1 68 rfl ?_
    refine x_goto dX12_heir_68 79 rfl ?_
    exact nX12_heir_79 hk_l0 h
def lbX12_heir_24 (Q : Int32 → Mem → Prop) (l0 : Nat) (l1 : Int32) (B24 : Int32 → Mem → Prop) (l2 : Int32) (M : Mem) : Prop :=
  ((l1 ≤ l2 → NX12_heir_59 Q l0 M) ∧ (¬ l1 ≤ l2 → FX12_highest (fun (r5 : Int32) => ((r5 = (-1) → NX12_heir_59 Q l0 M) ∧ (¬ r5 = (-1) → FX12_highest (fun (r6 : Int32) => FX12_sitterOf (fun (r7 : Int32) => FX12_dies (fun (M8 : Mem) => FX12_allClimb (fun (M9 : Mem) => B24 (l2 + 1) M9) l0 M8) l0 r7 M) l0 r6 M) l0 M))) l0 M))
def NX12_heir_24 (Q : Int32 → Mem → Prop) (l0 : Nat) (l1 : Int32) (l2 : Int32) (M : Mem) : Prop := xlp (fun (B : Int32 × Mem → Prop) a => lbX12_heir_24 Q l0 l1 (fun l2 M => B (l2, M)) a.1 a.2) (l2, M)
theorem nX12_heir_24 {Q : Int32 → Mem → Prop} {l0 : Nat} {l1 : Int32} {l2 : Int32} {M : Mem} (hk_l0 : SHk l0 = 12) (h : NX12_heir_24 Q l0 l1 l2 M) : xX RX12 cX12_heir 3 (some .int) 4 24 [(0, .ref l0), (1, .int l1), (2, .int l2)] [] M (xQi Q) := by
  obtain ⟨n, h⟩ := h
  have hB24 : ∀ (n : Nat) (l2 : Int32) (M : Mem), xlpn (fun (B : Int32 × Mem → Prop) a => lbX12_heir_24 Q l0 l1 (fun l2 M => B (l2, M)) a.1 a.2) n (l2, M) → xX RX12 cX12_heir 3 (some .int) 4 24 [(0, .ref l0), (1, .int l1), (2, .int l2)] [] M (xQi Q) := by
    intro n
    induction n with
    | zero => intro l2 M h; exact False.elim h
    | succ n ih =>
      intro l2 M h
      have hB24 := ih
      have h : lbX12_heir_24 Q l0 l1 (fun l2 M => xlpn (fun (B : Int32 × Mem → Prop) a => lbX12_heir_24 Q l0 l1 (fun l2 M => B (l2, M)) a.1 a.2) n (l2, M)) l2 M := h
      unfold lbX12_heir_24 at h
      refine x_iload_n dX12_heir_24 rfl 25 rfl ?_
      refine x_iload_n dX12_heir_25 rfl 26 rfl ?_
      refine x_icmp_ge dX12_heir_26 59 29 rfl rfl (fun hc => ?_) (fun hc => ?_)
      · have h := h.1 hc
        refine x_weak [(0, .ref l0)] [0] rfl ?_
        exact nX12_heir_59 hk_l0 h
      · have h := h.2 hc
        refine x_aload_n dX12_heir_29 rfl 30 rfl ?_
        refine kX12_highest dX12_heir_30 33 rfl hk_l0 kw7_42 (Nat.le_of_ble_eq_true rfl) (Nat.le_of_ble_eq_true rfl) h (fun r5 h => ?_)
        refine x_iconst dX12_heir_33 kc_m1 34 rfl ?_
        refine x_icmp_eq dX12_heir_34 59 37 rfl rfl (fun hc => ?_) (fun hc => ?_)
        · have h := h.1 hc
          refine x_weak [(0, .ref l0)] [0] rfl ?_
          exact nX12_heir_59 hk_l0 h
        · have h := h.2 hc
          refine x_aload_n dX12_heir_37 rfl 38 rfl ?_
          refine x_aload_n dX12_heir_38 rfl 39 rfl ?_
          refine x_aload_n dX12_heir_39 rfl 40 rfl ?_
          refine kX12_highest dX12_heir_40 43 rfl hk_l0 kw7_42 (Nat.le_of_ble_eq_true rfl) (Nat.le_of_ble_eq_true rfl) h (fun r6 h => ?_)
          refine kX12_sitterOf dX12_heir_43 46 rfl hk_l0 kw6_90 (Nat.le_of_ble_eq_true rfl) (Nat.le_of_ble_eq_true rfl) h (fun r7 h => ?_)
          refine kX12_dies dX12_heir_46 49 rfl hk_l0 kw7_164 (Nat.le_of_ble_eq_true rfl) (Nat.le_of_ble_eq_true rfl) h (fun M8 h => ?_)
          refine x_aload_n dX12_heir_49 rfl 50 rfl ?_
          refine kX12_allClimb dX12_heir_50 53 rfl hk_l0 kw6_86 (Nat.le_of_ble_eq_true rfl) (Nat.le_of_ble_eq_true rfl) h (fun M9 h => ?_)
          refine x_iinc dX12_heir_53 rfl (congrArg (l2 + ·) kc_1) (Nat.le_of_ble_eq_true rfl) [(0, .ref l0), (1, .int l1), (2, .int (l2 + 1))] rfl 56 rfl ?_
          refine x_goto dX12_heir_56 24 rfl ?_
          exact hB24 _ _ h
  exact hB24 n l2 M h
def FX12_heir (Q : Int32 → Mem → Prop) (l0 : Nat) (l1 : Int32) (M : Mem) : Prop :=
  ∀ M10 : Mem, M10 = xu M l0 0 0 → FX12_isIn (fun (r11 : Bool) => ((r11 = true → FX12_thinks (fun (M12 : Mem) => NX12_heir_24 Q l0 l1 0 M12) l0 M10) ∧ (r11 = false → Q (-1) M10))) l0 l1 0 13 M10
theorem eX12_heir {Q : Int32 → Mem → Prop} {l0 : Nat} {l1 : Int32} {M : Mem} (hk_l0 : SHk l0 = 12) (h : FX12_heir Q l0 l1 M) : xX RX12 cX12_heir 3 (some .int) 4 0 [(0, .ref l0), (1, .int l1)] [] M (xQi Q) := by
  unfold FX12_heir at h
  refine x_aload_n dX12_heir_0 rfl 1 rfl ?_
  refine x_iconst dX12_heir_1 kc_0 2 rfl ?_
  refine pf12_0 dX12_heir_2 5 rfl hk_l0 kw5_159 (x_mem (fun M10 hM10 => ?_))
  have h := h M10 hM10
  refine x_aload_n dX12_heir_5 rfl 6 rfl ?_
  refine x_iload_n dX12_heir_6 rfl 7 rfl ?_
  refine x_iconst dX12_heir_7 kc_0 8 rfl ?_
  refine x_bipush dX12_heir_8 kb_13 10 rfl ?_
  refine kX12_isIn dX12_heir_10 13 rfl hk_l0 kw6_82 (Nat.le_of_ble_eq_true rfl) (Nat.le_of_ble_eq_true rfl) h (fun r11 h => ?_)
  refine x_if_ne_b dX12_heir_13 18 16 rfl rfl (fun hc => ?_) (fun hc => ?_)
  · have h := h.1 hc
    refine x_aload_n dX12_heir_18 rfl 19 rfl ?_
    refine kX12_thinks dX12_heir_19 22 rfl hk_l0 kw7_192 (Nat.le_of_ble_eq_true rfl) (Nat.le_of_ble_eq_true rfl) h (fun M12 h => ?_)
    refine x_iconst dX12_heir_22 kc_0 23 rfl ?_
    refine x_istore_n dX12_heir_23 (Nat.le_of_ble_eq_true rfl) [(0, .ref l0), (1, .int l1), (2, .int 0)] rfl 24 rfl ?_
    exact nX12_heir_24 hk_l0 h
  · have h := h.2 hc
    refine x_iconst dX12_heir_16 kc_m1 17 rfl ?_
    exact x_iret dX12_heir_17 h
theorem cX12_heir_ {Q : Int32 → Mem → Prop} {l0 : Nat} {l1 : Int32} {M : Mem} (hk_l0 : SHk l0 = 12) (h : FX12_heir Q l0 l1 M) : xM yX12_heir cX12_heir 3 (some .int) 4 [.ref l0, .int l1] M (xQi Q) := xM_of (by decide +kernel) (Nat.le_of_ble_eq_true rfl) (eX12_heir hk_l0 h)
theorem kX12_heir {own : String} {cc : ByteArray} {nL : Nat} {rt : Option FieldType} {d pc ix : Nat} {L : List (Nat × Value)} {st : List Value} {M : Mem} {Rt : xGt → Array Value → State → Outcome → State → Prop} {Q : Int32 → Mem → Prop} {l0 : Nat} {l1 : Int32} (hd : decode cc pc = .ok (.invokevirtual ix, 3)) (q : Nat) (hq : pc + 3 = q) (hk_l0 : SHk l0 = 12) (w1 : Cond.methodLink own ix yX12_heir ∈ xTs) (hr : 4 < d) (hst : (st.map fun v => v.category).sum ≤ 8) (h : FX12_heir Q l0 l1 M) (k : ∀ (r : Int32) (N : Mem), Q r N → xX own cc nL rt d q L (.int r :: st) N Rt) : xX own cc nL rt d pc L (.int l1 :: .ref l0 :: st) M Rt :=
  x_callV_i (n := 1) (As := [.int l1]) hd q hq hk_l0 (by decide) rfl rfl w1 kw7_213 kw7_214 kw1_14 kw7_215 (by decide +kernel) rfl hr (by decide) hst _ rfl (cX12_heir_ hk_l0 h) k
def lbX12_comes_46 (Q : Int32 → Mem → Prop) (l0 : Nat) (l2 : Int32) (B46 : Int32 → Int32 → Mem → Prop) (l3 : Int32) (l4 : Int32) (M : Mem) : Prop :=
  ((l4 < l2 → Q l3 M) ∧ (¬ l4 < l2 → FX12_heardAs (fun (r2 : Int32) (M1 : Mem) => B46 r2 (l4 + (-1)) M1) l0 l3 l4 M))
def NX12_comes_46 (Q : Int32 → Mem → Prop) (l0 : Nat) (l2 : Int32) (l3 : Int32) (l4 : Int32) (M : Mem) : Prop := xlp (fun (B : Int32 × Int32 × Mem → Prop) a => lbX12_comes_46 Q l0 l2 (fun l3 l4 M => B (l3, l4, M)) a.1 a.2.1 a.2.2) (l3, l4, M)
theorem nX12_comes_46 {Q : Int32 → Mem → Prop} {l0 : Nat} {l2 : Int32} {l3 : Int32} {l4 : Int32} {M : Mem} (hk_l0 : SHk l0 = 12) (h : NX12_comes_46 Q l0 l2 l3 l4 M) : xX RX12 cX12_comes 5 (some .int) 7 46 [(0, .ref l0), (2, .int l2), (3, .int l3), (4, .int l4)] [] M (xQi Q) := by
  obtain ⟨n, h⟩ := h
  have hB46 : ∀ (n : Nat) (l3 : Int32) (l4 : Int32) (M : Mem), xlpn (fun (B : Int32 × Int32 × Mem → Prop) a => lbX12_comes_46 Q l0 l2 (fun l3 l4 M => B (l3, l4, M)) a.1 a.2.1 a.2.2) n (l3, l4, M) → xX RX12 cX12_comes 5 (some .int) 7 46 [(0, .ref l0), (2, .int l2), (3, .int l3), (4, .int l4)] [] M (xQi Q) := by
    intro n
    induction n with
    | zero => intro l3 l4 M h; exact False.elim h
    | succ n ih =>
      intro l3 l4 M h
      have hB46 := ih
      have h : lbX12_comes_46 Q l0 l2 (fun l3 l4 M => xlpn (fun (B : Int32 × Int32 × Mem → Prop) a => lbX12_comes_46 Q l0 l2 (fun l3 l4 M => B (l3, l4, M)) a.1 a.2.1 a.2.2) n (l3, l4, M)) l3 l4 M := h
      unfold lbX12_comes_46 at h
      refine x_iload dX12_comes_46 rfl 48 rfl ?_
      refine x_iload_n dX12_comes_48 rfl 49 rfl ?_
      refine x_icmp_lt dX12_comes_49 66 52 rfl rfl (fun hc => ?_) (fun hc => ?_)
      · have h := h.1 hc
        refine x_iload_n dX12_comes_66 rfl 67 rfl ?_
        exact x_iret dX12_comes_67 h
      · have h := h.2 hc
        refine x_aload_n dX12_comes_52 rfl 53 rfl ?_
        refine x_iload_n dX12_comes_53 rfl 54 rfl ?_
        refine x_iload dX12_comes_54 rfl 56 rfl ?_
        refine kX12_heardAs dX12_comes_56 59 rfl hk_l0 kw7_138 (Nat.le_of_ble_eq_true rfl) (Nat.le_of_ble_eq_true rfl) h (fun r2 M1 h => ?_)
        refine x_istore_n dX12_comes_59 (Nat.le_of_ble_eq_true rfl) [(0, .ref l0), (2, .int l2), (3, .int r2), (4, .int l4)] rfl 60 rfl ?_
        refine x_iinc dX12_comes_60 rfl (congrArg (l4 + ·) kc_m1) (Nat.le_of_ble_eq_true rfl) [(0, .ref l0), (2, .int l2), (3, .int r2), (4, .int (l4 + (-1)))] rfl 63 rfl ?_
        refine x_goto dX12_comes_63 46 rfl ?_
        exact hB46 _ _ _ h
  exact hB46 n l3 l4 M h
def FX12_comes (Q : Int32 → Mem → Prop) (l0 : Nat) (l1 : Int32) (l2 : Int32) (M : Mem) : Prop :=
  ∀ M3 : Mem, M3 = xu M l0 0 0 → FX12_isIn (fun (r4 : Bool) => ((r4 = false → Q (-100) M3) ∧ (r4 = true → FX12_isPillar (fun (r5 : Bool) => ((r5 = false → Q (-100) M3) ∧ (r5 = true → FX12_highest (fun (r6 : Int32) => ((l2 ≤ r6 → FX12_highest (fun (r7 : Int32) => NX12_comes_46 Q l0 l2 l1 (r7 - 1) M3) l0 M3) ∧ (¬ l2 ≤ r6 → Q (-100) M3))) l0 M3))) l0 l2 M3))) l0 l1 (-99) 99 M3
theorem eX12_comes {Q : Int32 → Mem → Prop} {l0 : Nat} {l1 : Int32} {l2 : Int32} {M : Mem} (hk_l0 : SHk l0 = 12) (h : FX12_comes Q l0 l1 l2 M) : xX RX12 cX12_comes 5 (some .int) 7 0 [(0, .ref l0), (1, .int l1), (2, .int l2)] [] M (xQi Q) := by
  unfold FX12_comes at h
  refine x_aload_n dX12_comes_0 rfl 1 rfl ?_
  refine x_iconst dX12_comes_1 kc_0 2 rfl ?_
  refine pf12_0 dX12_comes_2 5 rfl hk_l0 kw5_159 (x_mem (fun M3 hM3 => ?_))
  have h := h M3 hM3
  refine x_aload_n dX12_comes_5 rfl 6 rfl ?_
  refine x_iload_n dX12_comes_6 rfl 7 rfl ?_
  refine x_bipush dX12_comes_7 kb_m99 9 rfl ?_
  refine x_bipush dX12_comes_9 kb_99 11 rfl ?_
  refine kX12_isIn dX12_comes_11 14 rfl hk_l0 kw6_82 (Nat.le_of_ble_eq_true rfl) (Nat.le_of_ble_eq_true rfl) h (fun r4 h => ?_)
  refine x_if_eq_b dX12_comes_14 33 17 rfl rfl (fun hc => ?_) (fun hc => ?_)
  · have h := h.1 hc
    refine x_bipush dX12_comes_33 kb_m100 35 rfl ?_
    exact x_iret dX12_comes_35 h
  · have h := h.2 hc
    refine x_aload_n dX12_comes_17 rfl 18 rfl ?_
    refine x_iload_n dX12_comes_18 rfl 19 rfl ?_
    refine kX12_isPillar dX12_comes_19 22 rfl hk_l0 kw7_50 (Nat.le_of_ble_eq_true rfl) (Nat.le_of_ble_eq_true rfl) h (fun r5 h => ?_)
    refine x_if_eq_b dX12_comes_22 33 25 rfl rfl (fun hc => ?_) (fun hc => ?_)
    · have h := h.1 hc
      refine x_bipush dX12_comes_33 kb_m100 35 rfl ?_
      exact x_iret dX12_comes_35 h
    · have h := h.2 hc
      refine x_iload_n dX12_comes_25 rfl 26 rfl ?_
      refine x_aload_n dX12_comes_26 rfl 27 rfl ?_
      refine kX12_highest dX12_comes_27 30 rfl hk_l0 kw7_42 (Nat.le_of_ble_eq_true rfl) (Nat.le_of_ble_eq_true rfl) h (fun r6 h => ?_)
      refine x_icmp_le dX12_comes_30 36 33 rfl rfl (fun hc => ?_) (fun hc => ?_)
      · have h := h.1 hc
        refine x_iload_n dX12_comes_36 rfl 37 rfl ?_
        refine x_istore_n dX12_comes_37 (Nat.le_of_ble_eq_true rfl) [(0, .ref l0), (1, .int l1), (2, .int l2), (3, .int l1)] rfl 38 rfl ?_
        refine x_aload_n dX12_comes_38 rfl 39 rfl ?_
        refine kX12_highest dX12_comes_39 42 rfl hk_l0 kw7_42 (Nat.le_of_ble_eq_true rfl) (Nat.le_of_ble_eq_true rfl) h (fun r7 h => ?_)
        refine x_iconst dX12_comes_42 kc_1 43 rfl ?_
        refine x_isub dX12_comes_43 44 rfl ?_
        refine x_istore dX12_comes_44 (Nat.le_of_ble_eq_true rfl) [(0, .ref l0), (1, .int l1), (2, .int l2), (3, .int l1), (4, .int (r7 - 1))] rfl 46 rfl ?_
        refine x_weak [(0, .ref l0), (2, .int l2), (3, .int l1), (4, .int (r7 - 1))] [0, 2, 3, 4] rfl ?_
        exact nX12_comes_46 hk_l0 h
      · have h := h.2 hc
        refine x_bipush dX12_comes_33 kb_m100 35 rfl ?_
        exact x_iret dX12_comes_35 h
theorem cX12_comes_ {Q : Int32 → Mem → Prop} {l0 : Nat} {l1 : Int32} {l2 : Int32} {M : Mem} (hk_l0 : SHk l0 = 12) (h : FX12_comes Q l0 l1 l2 M) : xM yX12_comes cX12_comes 5 (some .int) 7 [.ref l0, .int l1, .int l2] M (xQi Q) := xM_of (by decide +kernel) (Nat.le_of_ble_eq_true rfl) (eX12_comes hk_l0 h)
theorem kX12_comes {own : String} {cc : ByteArray} {nL : Nat} {rt : Option FieldType} {d pc ix : Nat} {L : List (Nat × Value)} {st : List Value} {M : Mem} {Rt : xGt → Array Value → State → Outcome → State → Prop} {Q : Int32 → Mem → Prop} {l0 : Nat} {l1 : Int32} {l2 : Int32} (hd : decode cc pc = .ok (.invokevirtual ix, 3)) (q : Nat) (hq : pc + 3 = q) (hk_l0 : SHk l0 = 12) (w1 : Cond.methodLink own ix yX12_comes ∈ xTs) (hr : 7 < d) (hst : (st.map fun v => v.category).sum ≤ 8) (h : FX12_comes Q l0 l1 l2 M) (k : ∀ (r : Int32) (N : Mem), Q r N → xX own cc nL rt d q L (.int r :: st) N Rt) : xX own cc nL rt d pc L (.int l2 :: .int l1 :: .ref l0 :: st) M Rt :=
  x_callV_i (n := 2) (As := [.int l1, .int l2]) hd q hq hk_l0 (by decide) rfl rfl w1 kw7_217 kw7_218 kw1_14 kw7_219 (by decide +kernel) rfl hr (by decide) hst _ rfl (cX12_comes_ hk_l0 h) k
def NX12_spreadOf_83 (Q : Int32 → Prop) (B15 : Int32 → Int32 → Int32 → Int32 → Prop) (l0 : Nat) (l1 : Int32) (l2 : Int32) (l3 : Int32) (l4 : Int32) (l5 : Int32) (l6 : Int32) (M : Mem) : Prop :=
  B15 l3 l4 (l5 + 1) (l6 + 1)
theorem nX12_spreadOf_83 {Q : Int32 → Prop} {B15 : Int32 → Int32 → Int32 → Int32 → Prop} {l0 : Nat} {l1 : Int32} {l2 : Int32} {l3 : Int32} {l4 : Int32} {l5 : Int32} {l6 : Int32} {M : Mem} (hB15 : ∀ (l3 : Int32) (l4 : Int32) (l5 : Int32) (l6 : Int32), B15 l3 l4 l5 l6 → xX RX12 cX12_spreadOf 8 (some .int) 2 15 [(0, .ref l0), (1, .int l1), (2, .int l2), (3, .int l3), (4, .int l4), (5, .int l5), (6, .int l6)] [] M (xQi (xP M Q))) (hk_l0 : SHk l0 = 12) (h : NX12_spreadOf_83 Q B15 l0 l1 l2 l3 l4 l5 l6 M) : xX RX12 cX12_spreadOf 8 (some .int) 2 83 [(0, .ref l0), (1, .int l1), (2, .int l2), (3, .int l3), (4, .int l4), (5, .int l5), (6, .int l6)] [] M (xQi (xP M Q)) := by
  unfold NX12_spreadOf_83 at h
  refine x_iload dX12_spreadOf_83 rfl 85 rfl ?_
  refine x_iconst dX12_spreadOf_85 kc_1 86 rfl ?_
  refine x_iadd dX12_spreadOf_86 87 rfl ?_
  refine x_istore dX12_spreadOf_87 (Nat.le_of_ble_eq_true rfl) [(0, .ref l0), (1, .int l1), (2, .int l2), (3, .int l3), (4, .int l4), (5, .int (l5 + 1)), (6, .int l6)] rfl 89 rfl ?_
  refine x_iinc dX12_spreadOf_89 rfl (congrArg (l6 + ·) kc_1) (Nat.le_of_ble_eq_true rfl) [(0, .ref l0), (1, .int l1), (2, .int l2), (3, .int l3), (4, .int l4), (5, .int (l5 + 1)), (6, .int (l6 + 1))] rfl 92 rfl ?_
  refine x_goto dX12_spreadOf_92 15 rfl ?_
  exact hB15 _ _ _ _ h
def lbX12_spreadOf_15 (Q : Int32 → Prop) (l0 : Nat) (l1 : Int32) (l2 : Int32) (M : Mem) (B15 : Int32 → Int32 → Int32 → Int32 → Prop) (l3 : Int32) (l4 : Int32) (l5 : Int32) (l6 : Int32) : Prop :=
  (((M l0 6) ≤ l6 → Q (l3 - l4)) ∧ (¬ (M l0 6) ≤ l6 → FX12_sitterOf (fun (r1 : Int32) => ((¬ r1 = (-1) → FX12_sitterOf (fun (r2 : Int32) => vp_in (21 + r2) 107 ∧ ∀ y3 : Int32, y3 = M (l0 + 1) (ix (21 + r2)) → ((l5 < l1 → NX12_spreadOf_83 Q B15 l0 l1 l2 l3 l4 l5 l6 M) ∧ (¬ l5 < l1 → ((l2 ≤ l5 → NX12_spreadOf_83 Q B15 l0 l1 l2 l3 l4 l5 l6 M) ∧ (¬ l2 ≤ l5 → FX12_greater (fun (r4 : Int32) => FX12_lesser (fun (r5 : Int32) => NX12_spreadOf_83 Q B15 l0 l1 l2 r4 r5 l5 l6 M) l0 l4 y3 M) l0 l3 y3 M))))) l0 l6 M) ∧ (r1 = (-1) → B15 l3 l4 l5 (l6 + 1)))) l0 l6 M))
def NX12_spreadOf_15 (Q : Int32 → Prop) (l0 : Nat) (l1 : Int32) (l2 : Int32) (l3 : Int32) (l4 : Int32) (l5 : Int32) (l6 : Int32) (M : Mem) : Prop := xlp (fun (B : Int32 × Int32 × Int32 × Int32 → Prop) a => lbX12_spreadOf_15 Q l0 l1 l2 M (fun l3 l4 l5 l6 => B (l3, l4, l5, l6)) a.1 a.2.1 a.2.2.1 a.2.2.2) (l3, l4, l5, l6)
theorem nX12_spreadOf_15 {Q : Int32 → Prop} {l0 : Nat} {l1 : Int32} {l2 : Int32} {l3 : Int32} {l4 : Int32} {l5 : Int32} {l6 : Int32} {M : Mem} (hk_l0 : SHk l0 = 12) (h : NX12_spreadOf_15 Q l0 l1 l2 l3 l4 l5 l6 M) : xX RX12 cX12_spreadOf 8 (some .int) 2 15 [(0, .ref l0), (1, .int l1), (2, .int l2), (3, .int l3), (4, .int l4), (5, .int l5), (6, .int l6)] [] M (xQi (xP M Q)) := by
  obtain ⟨n, h⟩ := h
  have hB15 : ∀ (n : Nat) (l3 : Int32) (l4 : Int32) (l5 : Int32) (l6 : Int32), xlpn (fun (B : Int32 × Int32 × Int32 × Int32 → Prop) a => lbX12_spreadOf_15 Q l0 l1 l2 M (fun l3 l4 l5 l6 => B (l3, l4, l5, l6)) a.1 a.2.1 a.2.2.1 a.2.2.2) n (l3, l4, l5, l6) → xX RX12 cX12_spreadOf 8 (some .int) 2 15 [(0, .ref l0), (1, .int l1), (2, .int l2), (3, .int l3), (4, .int l4), (5, .int l5), (6, .int l6)] [] M (xQi (xP M Q)) := by
    intro n
    induction n with
    | zero => intro l3 l4 l5 l6 h; exact False.elim h
    | succ n ih =>
      intro l3 l4 l5 l6 h
      have hB15 := ih
      have h : lbX12_spreadOf_15 Q l0 l1 l2 M (fun l3 l4 l5 l6 => xlpn (fun (B : Int32 × Int32 × Int32 × Int32 → Prop) a => lbX12_spreadOf_15 Q l0 l1 l2 M (fun l3 l4 l5 l6 => B (l3, l4, l5, l6)) a.1 a.2.1 a.2.2.1 a.2.2.2) n (l3, l4, l5, l6)) l3 l4 l5 l6 := h
      unfold lbX12_spreadOf_15 at h
      refine x_iload dX12_spreadOf_15 rfl 17 rfl ?_
      refine x_aload_n dX12_spreadOf_17 rfl 18 rfl ?_
      refine gf12_6 dX12_spreadOf_18 21 rfl hk_l0 kw5_165 ?_
      refine x_icmp_ge dX12_spreadOf_21 95 24 rfl rfl (fun hc => ?_) (fun hc => ?_)
      · have h := h.1 hc
        refine x_iload_n dX12_spreadOf_95 rfl 96 rfl ?_
        refine x_iload dX12_spreadOf_96 rfl 98 rfl ?_
        refine x_isub dX12_spreadOf_98 99 rfl ?_
        exact x_iret dX12_spreadOf_99 ⟨rfl, h⟩
      · have h := h.2 hc
        refine x_aload_n dX12_spreadOf_24 rfl 25 rfl ?_
        refine x_iload dX12_spreadOf_25 rfl 27 rfl ?_
        refine kX12_sitterOf dX12_spreadOf_27 30 rfl hk_l0 kw6_90 (Nat.le_of_ble_eq_true rfl) (Nat.le_of_ble_eq_true rfl) h (fun r1 h => ?_)
        refine x_iconst dX12_spreadOf_30 kc_m1 31 rfl ?_
        refine x_icmp_ne dX12_spreadOf_31 37 34 rfl rfl (fun hc => ?_) (fun hc => ?_)
        · have h := h.1 hc
          refine x_aload_n dX12_spreadOf_37 rfl 38 rfl ?_
          refine gf12_1 dX12_spreadOf_38 41 rfl hk_l0 kw5_160 ?_
          refine x_bipush dX12_spreadOf_41 kb_21 43 rfl ?_
          refine x_aload_n dX12_spreadOf_43 rfl 44 rfl ?_
          refine x_iload dX12_spreadOf_44 rfl 46 rfl ?_
          refine kX12_sitterOf dX12_spreadOf_46 49 rfl hk_l0 kw6_90 (Nat.le_of_ble_eq_true rfl) (Nat.le_of_ble_eq_true rfl) h (fun r2 h => ?_)
          refine x_iadd dX12_spreadOf_49 50 rfl ?_
          obtain ⟨hin, h⟩ := h
          refine x_iaload dX12_spreadOf_50 (ly12_1 hk_l0) hin 51 rfl ?_
          refine x_top (fun y3 hy3 => ?_)
          have h := h y3 hy3
          refine x_istore dX12_spreadOf_51 (Nat.le_of_ble_eq_true rfl) [(0, .ref l0), (1, .int l1), (2, .int l2), (3, .int l3), (4, .int l4), (5, .int l5), (6, .int l6), (7, .int y3)] rfl 53 rfl ?_
          refine x_iload dX12_spreadOf_53 rfl 55 rfl ?_
          refine x_iload_n dX12_spreadOf_55 rfl 56 rfl ?_
          refine x_icmp_lt dX12_spreadOf_56 83 59 rfl rfl (fun hc => ?_) (fun hc => ?_)
          · have h := h.1 hc
            refine x_weak [(0, .ref l0), (1, .int l1), (2, .int l2), (3, .int l3), (4, .int l4), (5, .int l5), (6, .int l6)] [0, 1, 2, 3, 4, 5, 6] rfl ?_
            exact nX12_spreadOf_83 hB15 hk_l0 h
          · have h := h.2 hc
            refine x_iload dX12_spreadOf_59 rfl 61 rfl ?_
            refine x_iload_n dX12_spreadOf_61 rfl 62 rfl ?_
            refine x_icmp_ge dX12_spreadOf_62 83 65 rfl rfl (fun hc => ?_) (fun hc => ?_)
            · have h := h.1 hc
              refine x_weak [(0, .ref l0), (1, .int l1), (2, .int l2), (3, .int l3), (4, .int l4), (5, .int l5), (6, .int l6)] [0, 1, 2, 3, 4, 5, 6] rfl ?_
              exact nX12_spreadOf_83 hB15 hk_l0 h
            · have h := h.2 hc
              refine x_aload_n dX12_spreadOf_65 rfl 66 rfl ?_
              refine x_iload_n dX12_spreadOf_66 rfl 67 rfl ?_
              refine x_iload dX12_spreadOf_67 rfl 69 rfl ?_
              refine kX12_greater dX12_spreadOf_69 72 rfl hk_l0 kw7_130 (Nat.le_of_ble_eq_true rfl) (Nat.le_of_ble_eq_true rfl) h (fun r4 h => ?_)
              refine x_istore_n dX12_spreadOf_72 (Nat.le_of_ble_eq_true rfl) [(0, .ref l0), (1, .int l1), (2, .int l2), (3, .int r4), (4, .int l4), (5, .int l5), (6, .int l6), (7, .int y3)] rfl 73 rfl ?_
              refine x_aload_n dX12_spreadOf_73 rfl 74 rfl ?_
              refine x_iload dX12_spreadOf_74 rfl 76 rfl ?_
              refine x_iload dX12_spreadOf_76 rfl 78 rfl ?_
              refine kX12_lesser dX12_spreadOf_78 81 rfl hk_l0 kw7_62 (Nat.le_of_ble_eq_true rfl) (Nat.le_of_ble_eq_true rfl) h (fun r5 h => ?_)
              refine x_istore dX12_spreadOf_81 (Nat.le_of_ble_eq_true rfl) [(0, .ref l0), (1, .int l1), (2, .int l2), (3, .int r4), (4, .int r5), (5, .int l5), (6, .int l6), (7, .int y3)] rfl 83 rfl ?_
              refine x_weak [(0, .ref l0), (1, .int l1), (2, .int l2), (3, .int r4), (4, .int r5), (5, .int l5), (6, .int l6)] [0, 1, 2, 3, 4, 5, 6] rfl ?_
              exact nX12_spreadOf_83 hB15 hk_l0 h
        · have h := h.2 hc
          refine x_goto dX12_spreadOf_34 89 rfl ?_
          refine x_iinc dX12_spreadOf_89 rfl (congrArg (l6 + ·) kc_1) (Nat.le_of_ble_eq_true rfl) [(0, .ref l0), (1, .int l1), (2, .int l2), (3, .int l3), (4, .int l4), (5, .int l5), (6, .int (l6 + 1))] rfl 92 rfl ?_
          refine x_goto dX12_spreadOf_92 15 rfl ?_
          exact hB15 _ _ _ _ h
  exact hB15 n l3 l4 l5 l6 h
def FX12_spreadOf (Q : Int32 → Prop) (l0 : Nat) (l1 : Int32) (l2 : Int32) (M : Mem) : Prop :=
  NX12_spreadOf_15 Q l0 l1 l2 (-100000000) 100000000 0 0 M
theorem eX12_spreadOf {Q : Int32 → Prop} {l0 : Nat} {l1 : Int32} {l2 : Int32} {M : Mem} (hk_l0 : SHk l0 = 12) (h : FX12_spreadOf Q l0 l1 l2 M) : xX RX12 cX12_spreadOf 8 (some .int) 2 0 [(0, .ref l0), (1, .int l1), (2, .int l2)] [] M (xQi (xP M Q)) := by
  unfold FX12_spreadOf at h
  refine x_ldcw dX12_spreadOf_0 kw7_233 3 rfl ?_
  refine x_istore_n dX12_spreadOf_3 (Nat.le_of_ble_eq_true rfl) [(0, .ref l0), (1, .int l1), (2, .int l2), (3, .int (-100000000))] rfl 4 rfl ?_
  refine x_ldcw dX12_spreadOf_4 kw7_228 7 rfl ?_
  refine x_istore dX12_spreadOf_7 (Nat.le_of_ble_eq_true rfl) [(0, .ref l0), (1, .int l1), (2, .int l2), (3, .int (-100000000)), (4, .int 100000000)] rfl 9 rfl ?_
  refine x_iconst dX12_spreadOf_9 kc_0 10 rfl ?_
  refine x_istore dX12_spreadOf_10 (Nat.le_of_ble_eq_true rfl) [(0, .ref l0), (1, .int l1), (2, .int l2), (3, .int (-100000000)), (4, .int 100000000), (5, .int 0)] rfl 12 rfl ?_
  refine x_iconst dX12_spreadOf_12 kc_0 13 rfl ?_
  refine x_istore dX12_spreadOf_13 (Nat.le_of_ble_eq_true rfl) [(0, .ref l0), (1, .int l1), (2, .int l2), (3, .int (-100000000)), (4, .int 100000000), (5, .int 0), (6, .int 0)] rfl 15 rfl ?_
  exact nX12_spreadOf_15 hk_l0 h
theorem cX12_spreadOf_ {Q : Int32 → Prop} {l0 : Nat} {l1 : Int32} {l2 : Int32} {M : Mem} (hk_l0 : SHk l0 = 12) (h : FX12_spreadOf Q l0 l1 l2 M) : xM yX12_spreadOf cX12_spreadOf 8 (some .int) 2 [.ref l0, .int l1, .int l2] M (xQi (xP M Q)) := xM_of (by decide +kernel) (Nat.le_of_ble_eq_true rfl) (eX12_spreadOf hk_l0 h)
theorem kX12_spreadOf {own : String} {cc : ByteArray} {nL : Nat} {rt : Option FieldType} {d pc ix : Nat} {L : List (Nat × Value)} {st : List Value} {M : Mem} {Rt : xGt → Array Value → State → Outcome → State → Prop} {Q : Int32 → Prop} {l0 : Nat} {l1 : Int32} {l2 : Int32} (hd : decode cc pc = .ok (.invokevirtual ix, 3)) (q : Nat) (hq : pc + 3 = q) (hk_l0 : SHk l0 = 12) (w1 : Cond.methodLink own ix yX12_spreadOf ∈ xTs) (hr : 2 < d) (hst : (st.map fun v => v.category).sum ≤ 8) (h : FX12_spreadOf Q l0 l1 l2 M) (k : ∀ (r : Int32), Q r → xX own cc nL rt d q L (.int r :: st) M Rt) : xX own cc nL rt d pc L (.int l2 :: .int l1 :: .ref l0 :: st) M Rt :=
  x_callV_i (n := 2) (As := [.int l1, .int l2]) hd q hq hk_l0 (by decide) rfl rfl w1 kw7_231 ks8_0 kw1_14 kw7_232 (by decide +kernel) rfl hr (by decide) hst _ rfl (cX12_spreadOf_ hk_l0 h) (fun r N hN => by obtain ⟨rfl, hN⟩ := hN; exact k r hN)
def lbX12_sittingMany_4 (Q : Int32 → Prop) (l0 : Nat) (M : Mem) (B4 : Int32 → Int32 → Prop) (l1 : Int32) (l2 : Int32) : Prop :=
  (((M l0 6) ≤ l2 → Q l1) ∧ (¬ (M l0 6) ≤ l2 → FX12_sitterOf (fun (r1 : Int32) => ((r1 = (-1) → B4 l1 (l2 + 1)) ∧ (¬ r1 = (-1) → B4 (l1 + 1) (l2 + 1)))) l0 l2 M))
def NX12_sittingMany_4 (Q : Int32 → Prop) (l0 : Nat) (l1 : Int32) (l2 : Int32) (M : Mem) : Prop := xlp (fun (B : Int32 × Int32 → Prop) a => lbX12_sittingMany_4 Q l0 M (fun l1 l2 => B (l1, l2)) a.1 a.2) (l1, l2)
theorem nX12_sittingMany_4 {Q : Int32 → Prop} {l0 : Nat} {l1 : Int32} {l2 : Int32} {M : Mem} (hk_l0 : SHk l0 = 12) (h : NX12_sittingMany_4 Q l0 l1 l2 M) : xX RX12 cX12_sittingMany 3 (some .int) 2 4 [(0, .ref l0), (1, .int l1), (2, .int l2)] [] M (xQi (xP M Q)) := by
  obtain ⟨n, h⟩ := h
  have hB4 : ∀ (n : Nat) (l1 : Int32) (l2 : Int32), xlpn (fun (B : Int32 × Int32 → Prop) a => lbX12_sittingMany_4 Q l0 M (fun l1 l2 => B (l1, l2)) a.1 a.2) n (l1, l2) → xX RX12 cX12_sittingMany 3 (some .int) 2 4 [(0, .ref l0), (1, .int l1), (2, .int l2)] [] M (xQi (xP M Q)) := by
    intro n
    induction n with
    | zero => intro l1 l2 h; exact False.elim h
    | succ n ih =>
      intro l1 l2 h
      have hB4 := ih
      have h : lbX12_sittingMany_4 Q l0 M (fun l1 l2 => xlpn (fun (B : Int32 × Int32 → Prop) a => lbX12_sittingMany_4 Q l0 M (fun l1 l2 => B (l1, l2)) a.1 a.2) n (l1, l2)) l1 l2 := h
      unfold lbX12_sittingMany_4 at h
      refine x_iload_n dX12_sittingMany_4 rfl 5 rfl ?_
      refine x_aload_n dX12_sittingMany_5 rfl 6 rfl ?_
      refine gf12_6 dX12_sittingMany_6 9 rfl hk_l0 kw5_165 ?_
      refine x_icmp_ge dX12_sittingMany_9 31 12 rfl rfl (fun hc => ?_) (fun hc => ?_)
      · have h := h.1 hc
        refine x_iload_n dX12_sittingMany_31 rfl 32 rfl ?_
        exact x_iret dX12_sittingMany_32 ⟨rfl, h⟩
      · have h := h.2 hc
        refine x_aload_n dX12_sittingMany_12 rfl 13 rfl ?_
        refine x_iload_n dX12_sittingMany_13 rfl 14 rfl ?_
        refine kX12_sitterOf dX12_sittingMany_14 17 rfl hk_l0 kw6_90 (Nat.le_of_ble_eq_true rfl) (Nat.le_of_ble_eq_true rfl) h (fun r1 h => ?_)
        refine x_iconst dX12_sittingMany_17 kc_m1 18 rfl ?_
        refine x_icmp_eq dX12_sittingMany_18 25 21 rfl rfl (fun hc => ?_) (fun hc => ?_)
        · have h := h.1 hc
          refine x_iinc dX12_sittingMany_25 rfl (congrArg (l2 + ·) kc_1) (Nat.le_of_ble_eq_true rfl) [(0, .ref l0), (1, .int l1), (2, .int (l2 + 1))] rfl 28 rfl ?_
          refine x_goto dX12_sittingMany_28 4 rfl ?_
          exact hB4 _ _ h
        · have h := h.2 hc
          refine x_iload_n dX12_sittingMany_21 rfl 22 rfl ?_
          refine x_iconst dX12_sittingMany_22 kc_1 23 rfl ?_
          refine x_iadd dX12_sittingMany_23 24 rfl ?_
          refine x_istore_n dX12_sittingMany_24 (Nat.le_of_ble_eq_true rfl) [(0, .ref l0), (1, .int (l1 + 1)), (2, .int l2)] rfl 25 rfl ?_
          refine x_iinc dX12_sittingMany_25 rfl (congrArg (l2 + ·) kc_1) (Nat.le_of_ble_eq_true rfl) [(0, .ref l0), (1, .int (l1 + 1)), (2, .int (l2 + 1))] rfl 28 rfl ?_
          refine x_goto dX12_sittingMany_28 4 rfl ?_
          exact hB4 _ _ h
  exact hB4 n l1 l2 h
def FX12_sittingMany (Q : Int32 → Prop) (l0 : Nat) (M : Mem) : Prop :=
  NX12_sittingMany_4 Q l0 0 0 M
theorem eX12_sittingMany {Q : Int32 → Prop} {l0 : Nat} {M : Mem} (hk_l0 : SHk l0 = 12) (h : FX12_sittingMany Q l0 M) : xX RX12 cX12_sittingMany 3 (some .int) 2 0 [(0, .ref l0)] [] M (xQi (xP M Q)) := by
  unfold FX12_sittingMany at h
  refine x_iconst dX12_sittingMany_0 kc_0 1 rfl ?_
  refine x_istore_n dX12_sittingMany_1 (Nat.le_of_ble_eq_true rfl) [(0, .ref l0), (1, .int 0)] rfl 2 rfl ?_
  refine x_iconst dX12_sittingMany_2 kc_0 3 rfl ?_
  refine x_istore_n dX12_sittingMany_3 (Nat.le_of_ble_eq_true rfl) [(0, .ref l0), (1, .int 0), (2, .int 0)] rfl 4 rfl ?_
  exact nX12_sittingMany_4 hk_l0 h
theorem cX12_sittingMany_ {Q : Int32 → Prop} {l0 : Nat} {M : Mem} (hk_l0 : SHk l0 = 12) (h : FX12_sittingMany Q l0 M) : xM yX12_sittingMany cX12_sittingMany 3 (some .int) 2 [.ref l0] M (xQi (xP M Q)) := xM_of (by decide +kernel) (Nat.le_of_ble_eq_true rfl) (eX12_sittingMany hk_l0 h)
theorem kX12_sittingMany {own : String} {cc : ByteArray} {nL : Nat} {rt : Option FieldType} {d pc ix : Nat} {L : List (Nat × Value)} {st : List Value} {M : Mem} {Rt : xGt → Array Value → State → Outcome → State → Prop} {Q : Int32 → Prop} {l0 : Nat} (hd : decode cc pc = .ok (.invokevirtual ix, 3)) (q : Nat) (hq : pc + 3 = q) (hk_l0 : SHk l0 = 12) (w1 : Cond.methodLink own ix yX12_sittingMany ∈ xTs) (hr : 2 < d) (hst : (st.map fun v => v.category).sum ≤ 8) (h : FX12_sittingMany Q l0 M) (k : ∀ (r : Int32), Q r → xX own cc nL rt d q L (.int r :: st) M Rt) : xX own cc nL rt d pc L (.ref l0 :: st) M Rt :=
  x_callV_i (n := 0) (As := []) hd q hq hk_l0 (by decide) rfl rfl w1 kw7_226 ks7_15 kw1_14 kw7_227 (by decide +kernel) rfl hr (by decide) hst _ rfl (cX12_sittingMany_ hk_l0 h) (fun r N hN => by obtain ⟨rfl, hN⟩ := hN; exact k r hN)
def NX12_scandal_73 (Q : Int32 → Mem → Prop) (B37 : Int32 → Int32 → Int32 → Prop) (l0 : Nat) (l1 : Int32) (l2 : Int32) (l4 : Int32) (l5 : Int32) (l6 : Int32) (s0 : Int32) (M : Mem) : Prop :=
  FX12_lesser (fun (r1 : Int32) => B37 s0 r1 (l5 + 1)) l0 l4 l6 M
theorem nX12_scandal_73 {Q : Int32 → Mem → Prop} {B37 : Int32 → Int32 → Int32 → Prop} {l0 : Nat} {l1 : Int32} {l2 : Int32} {l4 : Int32} {l5 : Int32} {l6 : Int32} {s0 : Int32} {M : Mem} (hB37 : ∀ (l3 : Int32) (l4 : Int32) (l5 : Int32), B37 l3 l4 l5 → xX RX12 cX12_scandal 7 (some .int) 3 37 [(0, .ref l0), (1, .int l1), (2, .int l2), (3, .int l3), (4, .int l4), (5, .int l5)] [] M (xQi Q)) (hk_l0 : SHk l0 = 12) (h : NX12_scandal_73 Q B37 l0 l1 l2 l4 l5 l6 s0 M) : xX RX12 cX12_scandal 7 (some .int) 3 73 [(0, .ref l0), (1, .int l1), (2, .int l2), (4, .int l4), (5, .int l5), (6, .int l6)] [.int s0] M (xQi Q) := by
  unfold NX12_scandal_73 at h
  refine x_istore_n dX12_scandal_73 (Nat.le_of_ble_eq_true rfl) [(0, .ref l0), (1, .int l1), (2, .int l2), (3, .int s0), (4, .int l4), (5, .int l5), (6, .int l6)] rfl 74 rfl ?_
  refine x_aload_n dX12_scandal_74 rfl 75 rfl ?_
  refine x_iload dX12_scandal_75 rfl 77 rfl ?_
  refine x_iload dX12_scandal_77 rfl 79 rfl ?_
  refine kX12_lesser dX12_scandal_79 82 rfl hk_l0 kw7_62 (Nat.le_of_ble_eq_true rfl) (Nat.le_of_ble_eq_true rfl) h (fun r1 h => ?_)
  refine x_istore dX12_scandal_82 (Nat.le_of_ble_eq_true rfl) [(0, .ref l0), (1, .int l1), (2, .int l2), (3, .int s0), (4, .int r1), (5, .int l5), (6, .int l6)] rfl 84 rfl ?_
  refine x_iinc dX12_scandal_84 rfl (congrArg (l5 + ·) kc_1) (Nat.le_of_ble_eq_true rfl) [(0, .ref l0), (1, .int l1), (2, .int l2), (3, .int s0), (4, .int r1), (5, .int (l5 + 1)), (6, .int l6)] rfl 87 rfl ?_
  refine x_goto dX12_scandal_87 37 rfl ?_
  refine x_weak [(0, .ref l0), (1, .int l1), (2, .int l2), (3, .int s0), (4, .int r1), (5, .int (l5 + 1))] [0, 1, 2, 3, 4, 5] rfl ?_
  exact hB37 _ _ _ h
def lbX12_scandal_37 (Q : Int32 → Mem → Prop) (l0 : Nat) (l1 : Int32) (l2 : Int32) (M : Mem) (B37 : Int32 → Int32 → Int32 → Prop) (l3 : Int32) (l4 : Int32) (l5 : Int32) : Prop :=
  ((l2 ≤ l5 → ((¬ l1 = 0 → Q l4 M) ∧ (l1 = 0 → Q l3 M))) ∧ (¬ l2 ≤ l5 → FX12_spreadOf (fun (r2 : Int32) => FX12_spreadOf (fun (r3 : Int32) => ((l4 ≤ (r2 + r3) → NX12_scandal_73 Q B37 l0 l1 l2 l4 l5 (r2 + r3) l3 M) ∧ (¬ l4 ≤ (r2 + r3) → NX12_scandal_73 Q B37 l0 l1 l2 l4 l5 (r2 + r3) l5 M))) l0 l5 l2 M) l0 0 l5 M))
def NX12_scandal_37 (Q : Int32 → Mem → Prop) (l0 : Nat) (l1 : Int32) (l2 : Int32) (l3 : Int32) (l4 : Int32) (l5 : Int32) (M : Mem) : Prop := xlp (fun (B : Int32 × Int32 × Int32 → Prop) a => lbX12_scandal_37 Q l0 l1 l2 M (fun l3 l4 l5 => B (l3, l4, l5)) a.1 a.2.1 a.2.2) (l3, l4, l5)
theorem nX12_scandal_37 {Q : Int32 → Mem → Prop} {l0 : Nat} {l1 : Int32} {l2 : Int32} {l3 : Int32} {l4 : Int32} {l5 : Int32} {M : Mem} (hk_l0 : SHk l0 = 12) (h : NX12_scandal_37 Q l0 l1 l2 l3 l4 l5 M) : xX RX12 cX12_scandal 7 (some .int) 3 37 [(0, .ref l0), (1, .int l1), (2, .int l2), (3, .int l3), (4, .int l4), (5, .int l5)] [] M (xQi Q) := by
  obtain ⟨n, h⟩ := h
  have hB37 : ∀ (n : Nat) (l3 : Int32) (l4 : Int32) (l5 : Int32), xlpn (fun (B : Int32 × Int32 × Int32 → Prop) a => lbX12_scandal_37 Q l0 l1 l2 M (fun l3 l4 l5 => B (l3, l4, l5)) a.1 a.2.1 a.2.2) n (l3, l4, l5) → xX RX12 cX12_scandal 7 (some .int) 3 37 [(0, .ref l0), (1, .int l1), (2, .int l2), (3, .int l3), (4, .int l4), (5, .int l5)] [] M (xQi Q) := by
    intro n
    induction n with
    | zero => intro l3 l4 l5 h; exact False.elim h
    | succ n ih =>
      intro l3 l4 l5 h
      have hB37 := ih
      have h : lbX12_scandal_37 Q l0 l1 l2 M (fun l3 l4 l5 => xlpn (fun (B : Int32 × Int32 × Int32 → Prop) a => lbX12_scandal_37 Q l0 l1 l2 M (fun l3 l4 l5 => B (l3, l4, l5)) a.1 a.2.1 a.2.2) n (l3, l4, l5)) l3 l4 l5 := h
      unfold lbX12_scandal_37 at h
      refine x_iload dX12_scandal_37 rfl 39 rfl ?_
      refine x_iload_n dX12_scandal_39 rfl 40 rfl ?_
      refine x_icmp_ge dX12_scandal_40 90 43 rfl rfl (fun hc => ?_) (fun hc => ?_)
      · have h := h.1 hc
        refine x_iload_n dX12_scandal_90 rfl 91 rfl ?_
        refine x_if_ne dX12_scandal_91 98 94 rfl rfl (fun hc => ?_) (fun hc => ?_)
        · have h := h.1 hc
          refine x_iload dX12_scandal_98 rfl 100 rfl ?_
          exact x_iret dX12_scandal_100 h
        · have h := h.2 hc
          refine x_iload_n dX12_scandal_94 rfl 95 rfl ?_
          refine x_goto dX12_scandal_95 100 rfl ?_
          exact x_iret dX12_scandal_100 h
      · have h := h.2 hc
        refine x_aload_n dX12_scandal_43 rfl 44 rfl ?_
        refine x_iconst dX12_scandal_44 kc_0 45 rfl ?_
        refine x_iload dX12_scandal_45 rfl 47 rfl ?_
        refine kX12_spreadOf dX12_scandal_47 50 rfl hk_l0 kw7_229 (Nat.le_of_ble_eq_true rfl) (Nat.le_of_ble_eq_true rfl) h (fun r2 h => ?_)
        refine x_aload_n dX12_scandal_50 rfl 51 rfl ?_
        refine x_iload dX12_scandal_51 rfl 53 rfl ?_
        refine x_iload_n dX12_scandal_53 rfl 54 rfl ?_
        refine kX12_spreadOf dX12_scandal_54 57 rfl hk_l0 kw7_229 (Nat.le_of_ble_eq_true rfl) (Nat.le_of_ble_eq_true rfl) h (fun r3 h => ?_)
        refine x_iadd dX12_scandal_57 58 rfl ?_
        refine x_istore dX12_scandal_58 (Nat.le_of_ble_eq_true rfl) [(0, .ref l0), (1, .int l1), (2, .int l2), (3, .int l3), (4, .int l4), (5, .int l5), (6, .int (r2 + r3))] rfl 60 rfl ?_
        refine x_iload dX12_scandal_60 rfl 62 rfl ?_
        refine x_iload dX12_scandal_62 rfl 64 rfl ?_
        refine x_icmp_ge dX12_scandal_64 72 67 rfl rfl (fun hc => ?_) (fun hc => ?_)
        · have h := h.1 hc
          refine x_iload_n dX12_scandal_72 rfl 73 rfl ?_
          refine x_weak [(0, .ref l0), (1, .int l1), (2, .int l2), (4, .int l4), (5, .int l5), (6, .int (r2 + r3))] [0, 1, 2, 4, 5, 6] rfl ?_
          exact nX12_scandal_73 hB37 hk_l0 h
        · have h := h.2 hc
          refine x_iload dX12_scandal_67 rfl 69 rfl ?_
          refine x_goto dX12_scandal_69 73 rfl ?_
          refine x_weak [(0, .ref l0), (1, .int l1), (2, .int l2), (4, .int l4), (5, .int l5), (6, .int (r2 + r3))] [0, 1, 2, 4, 5, 6] rfl ?_
          exact nX12_scandal_73 hB37 hk_l0 h
  exact hB37 n l3 l4 l5 h
def FX12_scandal (Q : Int32 → Mem → Prop) (l0 : Nat) (l1 : Int32) (M : Mem) : Prop :=
  ∀ M4 : Mem, M4 = xu M l0 0 0 → FX12_sittingMany (fun (r5 : Int32) => ((r5 < 2 → Q (-1) M4) ∧ (¬ r5 < 2 → FX12_isIn (fun (r6 : Bool) => ((r6 = true → NX12_scandal_37 Q l0 l1 r5 0 100000000 1 M4) ∧ (r6 = false → Q (-1) M4))) l0 l1 0 1 M4))) l0 M4
theorem eX12_scandal {Q : Int32 → Mem → Prop} {l0 : Nat} {l1 : Int32} {M : Mem} (hk_l0 : SHk l0 = 12) (h : FX12_scandal Q l0 l1 M) : xX RX12 cX12_scandal 7 (some .int) 3 0 [(0, .ref l0), (1, .int l1)] [] M (xQi Q) := by
  unfold FX12_scandal at h
  refine x_aload_n dX12_scandal_0 rfl 1 rfl ?_
  refine x_iconst dX12_scandal_1 kc_0 2 rfl ?_
  refine pf12_0 dX12_scandal_2 5 rfl hk_l0 kw5_159 (x_mem (fun M4 hM4 => ?_))
  have h := h M4 hM4
  refine x_aload_n dX12_scandal_5 rfl 6 rfl ?_
  refine kX12_sittingMany dX12_scandal_6 9 rfl hk_l0 kw7_224 (Nat.le_of_ble_eq_true rfl) (Nat.le_of_ble_eq_true rfl) h (fun r5 h => ?_)
  refine x_istore_n dX12_scandal_9 (Nat.le_of_ble_eq_true rfl) [(0, .ref l0), (1, .int l1), (2, .int r5)] rfl 10 rfl ?_
  refine x_iload_n dX12_scandal_10 rfl 11 rfl ?_
  refine x_iconst dX12_scandal_11 kc_2 12 rfl ?_
  refine x_icmp_lt dX12_scandal_12 25 15 rfl rfl (fun hc => ?_) (fun hc => ?_)
  · have h := h.1 hc
    refine x_iconst dX12_scandal_25 kc_m1 26 rfl ?_
    exact x_iret dX12_scandal_26 h
  · have h := h.2 hc
    refine x_aload_n dX12_scandal_15 rfl 16 rfl ?_
    refine x_iload_n dX12_scandal_16 rfl 17 rfl ?_
    refine x_iconst dX12_scandal_17 kc_0 18 rfl ?_
    refine x_iconst dX12_scandal_18 kc_1 19 rfl ?_
    refine kX12_isIn dX12_scandal_19 22 rfl hk_l0 kw6_82 (Nat.le_of_ble_eq_true rfl) (Nat.le_of_ble_eq_true rfl) h (fun r6 h => ?_)
    refine x_if_ne_b dX12_scandal_22 27 25 rfl rfl (fun hc => ?_) (fun hc => ?_)
    · have h := h.1 hc
      refine x_iconst dX12_scandal_27 kc_0 28 rfl ?_
      refine x_istore_n dX12_scandal_28 (Nat.le_of_ble_eq_true rfl) [(0, .ref l0), (1, .int l1), (2, .int r5), (3, .int 0)] rfl 29 rfl ?_
      refine x_ldcw dX12_scandal_29 kw7_228 32 rfl ?_
      refine x_istore dX12_scandal_32 (Nat.le_of_ble_eq_true rfl) [(0, .ref l0), (1, .int l1), (2, .int r5), (3, .int 0), (4, .int 100000000)] rfl 34 rfl ?_
      refine x_iconst dX12_scandal_34 kc_1 35 rfl ?_
      refine x_istore dX12_scandal_35 (Nat.le_of_ble_eq_true rfl) [(0, .ref l0), (1, .int l1), (2, .int r5), (3, .int 0), (4, .int 100000000), (5, .int 1)] rfl 37 rfl ?_
      exact nX12_scandal_37 hk_l0 h
    · have h := h.2 hc
      refine x_iconst dX12_scandal_25 kc_m1 26 rfl ?_
      exact x_iret dX12_scandal_26 h
theorem cX12_scandal_ {Q : Int32 → Mem → Prop} {l0 : Nat} {l1 : Int32} {M : Mem} (hk_l0 : SHk l0 = 12) (h : FX12_scandal Q l0 l1 M) : xM yX12_scandal cX12_scandal 7 (some .int) 3 [.ref l0, .int l1] M (xQi Q) := xM_of (by decide +kernel) (Nat.le_of_ble_eq_true rfl) (eX12_scandal hk_l0 h)
theorem kX12_scandal {own : String} {cc : ByteArray} {nL : Nat} {rt : Option FieldType} {d pc ix : Nat} {L : List (Nat × Value)} {st : List Value} {M : Mem} {Rt : xGt → Array Value → State → Outcome → State → Prop} {Q : Int32 → Mem → Prop} {l0 : Nat} {l1 : Int32} (hd : decode cc pc = .ok (.invokevirtual ix, 3)) (q : Nat) (hq : pc + 3 = q) (hk_l0 : SHk l0 = 12) (w1 : Cond.methodLink own ix yX12_scandal ∈ xTs) (hr : 3 < d) (hst : (st.map fun v => v.category).sum ≤ 8) (h : FX12_scandal Q l0 l1 M) (k : ∀ (r : Int32) (N : Mem), Q r N → xX own cc nL rt d q L (.int r :: st) N Rt) : xX own cc nL rt d pc L (.int l1 :: .ref l0 :: st) M Rt :=
  x_callV_i (n := 1) (As := [.int l1]) hd q hq hk_l0 (by decide) rfl rfl w1 kw7_221 kw7_222 kw1_14 kw7_223 (by decide +kernel) rfl hr (by decide) hst _ rfl (cX12_scandal_ hk_l0 h) k
def lbX12_waysTo_4 (Q : Int32 → Prop) (l0 : Nat) (l1 : Int32) (M : Mem) (B4 : Int32 → Int32 → Prop) (l2 : Int32) (l3 : Int32) : Prop :=
  (((M l0 6) ≤ l3 → Q l2) ∧ (¬ (M l0 6) ≤ l3 → FX12_sitterOf (fun (r1 : Int32) => ((r1 = (-1) → B4 l2 (l3 + 1)) ∧ (¬ r1 = (-1) → vp_in (63 + l1) 107 ∧ vp_in (63 + l3) 107 ∧ FX12_far (fun (r2 : Int32) => B4 (l2 + r2) (l3 + 1)) l0 (M (l0 + 1) (ix (63 + l1))) (M (l0 + 1) (ix (63 + l3))) M))) l0 l3 M))
def NX12_waysTo_4 (Q : Int32 → Prop) (l0 : Nat) (l1 : Int32) (l2 : Int32) (l3 : Int32) (M : Mem) : Prop := xlp (fun (B : Int32 × Int32 → Prop) a => lbX12_waysTo_4 Q l0 l1 M (fun l2 l3 => B (l2, l3)) a.1 a.2) (l2, l3)
theorem nX12_waysTo_4 {Q : Int32 → Prop} {l0 : Nat} {l1 : Int32} {l2 : Int32} {l3 : Int32} {M : Mem} (hk_l0 : SHk l0 = 12) (h : NX12_waysTo_4 Q l0 l1 l2 l3 M) : xX RX12 cX12_waysTo 4 (some .int) 2 4 [(0, .ref l0), (1, .int l1), (2, .int l2), (3, .int l3)] [] M (xQi (xP M Q)) := by
  obtain ⟨n, h⟩ := h
  have hB4 : ∀ (n : Nat) (l2 : Int32) (l3 : Int32), xlpn (fun (B : Int32 × Int32 → Prop) a => lbX12_waysTo_4 Q l0 l1 M (fun l2 l3 => B (l2, l3)) a.1 a.2) n (l2, l3) → xX RX12 cX12_waysTo 4 (some .int) 2 4 [(0, .ref l0), (1, .int l1), (2, .int l2), (3, .int l3)] [] M (xQi (xP M Q)) := by
    intro n
    induction n with
    | zero => intro l2 l3 h; exact False.elim h
    | succ n ih =>
      intro l2 l3 h
      have hB4 := ih
      have h : lbX12_waysTo_4 Q l0 l1 M (fun l2 l3 => xlpn (fun (B : Int32 × Int32 → Prop) a => lbX12_waysTo_4 Q l0 l1 M (fun l2 l3 => B (l2, l3)) a.1 a.2) n (l2, l3)) l2 l3 := h
      unfold lbX12_waysTo_4 at h
      refine x_iload_n dX12_waysTo_4 rfl 5 rfl ?_
      refine x_aload_n dX12_waysTo_5 rfl 6 rfl ?_
      refine gf12_6 dX12_waysTo_6 9 rfl hk_l0 kw5_165 ?_
      refine x_icmp_ge dX12_waysTo_9 52 12 rfl rfl (fun hc => ?_) (fun hc => ?_)
      · have h := h.1 hc
        refine x_iload_n dX12_waysTo_52 rfl 53 rfl ?_
        exact x_iret dX12_waysTo_53 ⟨rfl, h⟩
      · have h := h.2 hc
        refine x_aload_n dX12_waysTo_12 rfl 13 rfl ?_
        refine x_iload_n dX12_waysTo_13 rfl 14 rfl ?_
        refine kX12_sitterOf dX12_waysTo_14 17 rfl hk_l0 kw6_90 (Nat.le_of_ble_eq_true rfl) (Nat.le_of_ble_eq_true rfl) h (fun r1 h => ?_)
        refine x_iconst dX12_waysTo_17 kc_m1 18 rfl ?_
        refine x_icmp_eq dX12_waysTo_18 46 21 rfl rfl (fun hc => ?_) (fun hc => ?_)
        · have h := h.1 hc
          refine x_iinc dX12_waysTo_46 rfl (congrArg (l3 + ·) kc_1) (Nat.le_of_ble_eq_true rfl) [(0, .ref l0), (1, .int l1), (2, .int l2), (3, .int (l3 + 1))] rfl 49 rfl ?_
          refine x_goto dX12_waysTo_49 4 rfl ?_
          exact hB4 _ _ h
        · have h := h.2 hc
          refine x_iload_n dX12_waysTo_21 rfl 22 rfl ?_
          refine x_aload_n dX12_waysTo_22 rfl 23 rfl ?_
          refine x_aload_n dX12_waysTo_23 rfl 24 rfl ?_
          refine gf12_1 dX12_waysTo_24 27 rfl hk_l0 kw5_160 ?_
          refine x_bipush dX12_waysTo_27 kb_63 29 rfl ?_
          refine x_iload_n dX12_waysTo_29 rfl 30 rfl ?_
          refine x_iadd dX12_waysTo_30 31 rfl ?_
          obtain ⟨hin, h⟩ := h
          refine x_iaload dX12_waysTo_31 (ly12_1 hk_l0) hin 32 rfl ?_
          refine x_aload_n dX12_waysTo_32 rfl 33 rfl ?_
          refine gf12_1 dX12_waysTo_33 36 rfl hk_l0 kw5_160 ?_
          refine x_bipush dX12_waysTo_36 kb_63 38 rfl ?_
          refine x_iload_n dX12_waysTo_38 rfl 39 rfl ?_
          refine x_iadd dX12_waysTo_39 40 rfl ?_
          obtain ⟨hin, h⟩ := h
          refine x_iaload dX12_waysTo_40 (ly12_1 hk_l0) hin 41 rfl ?_
          refine kX12_far dX12_waysTo_41 44 rfl hk_l0 kw8_2 (Nat.le_of_ble_eq_true rfl) (Nat.le_of_ble_eq_true rfl) h (fun r2 h => ?_)
          refine x_iadd dX12_waysTo_44 45 rfl ?_
          refine x_istore_n dX12_waysTo_45 (Nat.le_of_ble_eq_true rfl) [(0, .ref l0), (1, .int l1), (2, .int (l2 + r2)), (3, .int l3)] rfl 46 rfl ?_
          refine x_iinc dX12_waysTo_46 rfl (congrArg (l3 + ·) kc_1) (Nat.le_of_ble_eq_true rfl) [(0, .ref l0), (1, .int l1), (2, .int (l2 + r2)), (3, .int (l3 + 1))] rfl 49 rfl ?_
          refine x_goto dX12_waysTo_49 4 rfl ?_
          exact hB4 _ _ h
  exact hB4 n l2 l3 h
def FX12_waysTo (Q : Int32 → Prop) (l0 : Nat) (l1 : Int32) (M : Mem) : Prop :=
  NX12_waysTo_4 Q l0 l1 0 0 M
theorem eX12_waysTo {Q : Int32 → Prop} {l0 : Nat} {l1 : Int32} {M : Mem} (hk_l0 : SHk l0 = 12) (h : FX12_waysTo Q l0 l1 M) : xX RX12 cX12_waysTo 4 (some .int) 2 0 [(0, .ref l0), (1, .int l1)] [] M (xQi (xP M Q)) := by
  unfold FX12_waysTo at h
  refine x_iconst dX12_waysTo_0 kc_0 1 rfl ?_
  refine x_istore_n dX12_waysTo_1 (Nat.le_of_ble_eq_true rfl) [(0, .ref l0), (1, .int l1), (2, .int 0)] rfl 2 rfl ?_
  refine x_iconst dX12_waysTo_2 kc_0 3 rfl ?_
  refine x_istore_n dX12_waysTo_3 (Nat.le_of_ble_eq_true rfl) [(0, .ref l0), (1, .int l1), (2, .int 0), (3, .int 0)] rfl 4 rfl ?_
  exact nX12_waysTo_4 hk_l0 h
theorem cX12_waysTo_ {Q : Int32 → Prop} {l0 : Nat} {l1 : Int32} {M : Mem} (hk_l0 : SHk l0 = 12) (h : FX12_waysTo Q l0 l1 M) : xM yX12_waysTo cX12_waysTo 4 (some .int) 2 [.ref l0, .int l1] M (xQi (xP M Q)) := xM_of (by decide +kernel) (Nat.le_of_ble_eq_true rfl) (eX12_waysTo hk_l0 h)
theorem kX12_waysTo {own : String} {cc : ByteArray} {nL : Nat} {rt : Option FieldType} {d pc ix : Nat} {L : List (Nat × Value)} {st : List Value} {M : Mem} {Rt : xGt → Array Value → State → Outcome → State → Prop} {Q : Int32 → Prop} {l0 : Nat} {l1 : Int32} (hd : decode cc pc = .ok (.invokevirtual ix, 3)) (q : Nat) (hq : pc + 3 = q) (hk_l0 : SHk l0 = 12) (w1 : Cond.methodLink own ix yX12_waysTo ∈ xTs) (hr : 2 < d) (hst : (st.map fun v => v.category).sum ≤ 8) (h : FX12_waysTo Q l0 l1 M) (k : ∀ (r : Int32), Q r → xX own cc nL rt d q L (.int r :: st) M Rt) : xX own cc nL rt d pc L (.int l1 :: .ref l0 :: st) M Rt :=
  x_callV_i (n := 1) (As := [.int l1]) hd q hq hk_l0 (by decide) rfl rfl w1 kw8_0 ks8_1 kw1_14 kw8_1 (by decide +kernel) rfl hr (by decide) hst _ rfl (cX12_waysTo_ hk_l0 h) (fun r N hN => by obtain ⟨rfl, hN⟩ := hN; exact k r hN)
def lbX12_middle_28 (Q : Int32 → Mem → Prop) (l0 : Nat) (l1 : Int32) (M : Mem) (B28 : Int32 → Int32 → Prop) (l2 : Int32) (l3 : Int32) : Prop :=
  (((M l0 6) ≤ l3 → ((¬ l1 = 0 → FX12_waysTo (fun (r1 : Int32) => Q r1 M) l0 l2 M) ∧ (l1 = 0 → Q l2 M))) ∧ (¬ (M l0 6) ≤ l3 → FX12_waysTo (fun (r2 : Int32) => FX12_waysTo (fun (r3 : Int32) => ((r3 ≤ r2 → B28 l2 (l3 + 1)) ∧ (¬ r3 ≤ r2 → B28 l3 (l3 + 1)))) l0 l2 M) l0 l3 M))
def NX12_middle_28 (Q : Int32 → Mem → Prop) (l0 : Nat) (l1 : Int32) (l2 : Int32) (l3 : Int32) (M : Mem) : Prop := xlp (fun (B : Int32 × Int32 → Prop) a => lbX12_middle_28 Q l0 l1 M (fun l2 l3 => B (l2, l3)) a.1 a.2) (l2, l3)
theorem nX12_middle_28 {Q : Int32 → Mem → Prop} {l0 : Nat} {l1 : Int32} {l2 : Int32} {l3 : Int32} {M : Mem} (hk_l0 : SHk l0 = 12) (h : NX12_middle_28 Q l0 l1 l2 l3 M) : xX RX12 cX12_middle 4 (some .int) 3 28 [(0, .ref l0), (1, .int l1), (2, .int l2), (3, .int l3)] [] M (xQi Q) := by
  obtain ⟨n, h⟩ := h
  have hB28 : ∀ (n : Nat) (l2 : Int32) (l3 : Int32), xlpn (fun (B : Int32 × Int32 → Prop) a => lbX12_middle_28 Q l0 l1 M (fun l2 l3 => B (l2, l3)) a.1 a.2) n (l2, l3) → xX RX12 cX12_middle 4 (some .int) 3 28 [(0, .ref l0), (1, .int l1), (2, .int l2), (3, .int l3)] [] M (xQi Q) := by
    intro n
    induction n with
    | zero => intro l2 l3 h; exact False.elim h
    | succ n ih =>
      intro l2 l3 h
      have hB28 := ih
      have h : lbX12_middle_28 Q l0 l1 M (fun l2 l3 => xlpn (fun (B : Int32 × Int32 → Prop) a => lbX12_middle_28 Q l0 l1 M (fun l2 l3 => B (l2, l3)) a.1 a.2) n (l2, l3)) l2 l3 := h
      unfold lbX12_middle_28 at h
      refine x_iload_n dX12_middle_28 rfl 29 rfl ?_
      refine x_aload_n dX12_middle_29 rfl 30 rfl ?_
      refine gf12_6 dX12_middle_30 33 rfl hk_l0 kw5_165 ?_
      refine x_icmp_ge dX12_middle_33 57 36 rfl rfl (fun hc => ?_) (fun hc => ?_)
      · have h := h.1 hc
        refine x_iload_n dX12_middle_57 rfl 58 rfl ?_
        refine x_if_ne dX12_middle_58 65 61 rfl rfl (fun hc => ?_) (fun hc => ?_)
        · have h := h.1 hc
          refine x_aload_n dX12_middle_65 rfl 66 rfl ?_
          refine x_iload_n dX12_middle_66 rfl 67 rfl ?_
          refine kX12_waysTo dX12_middle_67 70 rfl hk_l0 kw7_238 (Nat.le_of_ble_eq_true rfl) (Nat.le_of_ble_eq_true rfl) h (fun r1 h => ?_)
          exact x_iret dX12_middle_70 h
        · have h := h.2 hc
          refine x_iload_n dX12_middle_61 rfl 62 rfl ?_
          refine x_goto dX12_middle_62 70 rfl ?_
          exact x_iret dX12_middle_70 h
      · have h := h.2 hc
        refine x_aload_n dX12_middle_36 rfl 37 rfl ?_
        refine x_iload_n dX12_middle_37 rfl 38 rfl ?_
        refine kX12_waysTo dX12_middle_38 41 rfl hk_l0 kw7_238 (Nat.le_of_ble_eq_true rfl) (Nat.le_of_ble_eq_true rfl) h (fun r2 h => ?_)
        refine x_aload_n dX12_middle_41 rfl 42 rfl ?_
        refine x_iload_n dX12_middle_42 rfl 43 rfl ?_
        refine kX12_waysTo dX12_middle_43 46 rfl hk_l0 kw7_238 (Nat.le_of_ble_eq_true rfl) (Nat.le_of_ble_eq_true rfl) h (fun r3 h => ?_)
        refine x_icmp_ge dX12_middle_46 51 49 rfl rfl (fun hc => ?_) (fun hc => ?_)
        · have h := h.1 hc
          refine x_iinc dX12_middle_51 rfl (congrArg (l3 + ·) kc_1) (Nat.le_of_ble_eq_true rfl) [(0, .ref l0), (1, .int l1), (2, .int l2), (3, .int (l3 + 1))] rfl 54 rfl ?_
          refine x_goto dX12_middle_54 28 rfl ?_
          exact hB28 _ _ h
        · have h := h.2 hc
          refine x_iload_n dX12_middle_49 rfl 50 rfl ?_
          refine x_istore_n dX12_middle_50 (Nat.le_of_ble_eq_true rfl) [(0, .ref l0), (1, .int l1), (2, .int l3), (3, .int l3)] rfl 51 rfl ?_
          refine x_iinc dX12_middle_51 rfl (congrArg (l3 + ·) kc_1) (Nat.le_of_ble_eq_true rfl) [(0, .ref l0), (1, .int l1), (2, .int l3), (3, .int (l3 + 1))] rfl 54 rfl ?_
          refine x_goto dX12_middle_54 28 rfl ?_
          exact hB28 _ _ h
  exact hB28 n l2 l3 h
def FX12_middle (Q : Int32 → Mem → Prop) (l0 : Nat) (l1 : Int32) (M : Mem) : Prop :=
  ∀ M4 : Mem, M4 = xu M l0 0 0 → (((M4 l0 6) = 0 → Q (-1) M4) ∧ (¬ (M4 l0 6) = 0 → FX12_isIn (fun (r5 : Bool) => ((r5 = true → NX12_middle_28 Q l0 l1 0 1 M4) ∧ (r5 = false → Q (-1) M4))) l0 l1 0 1 M4))
theorem eX12_middle {Q : Int32 → Mem → Prop} {l0 : Nat} {l1 : Int32} {M : Mem} (hk_l0 : SHk l0 = 12) (h : FX12_middle Q l0 l1 M) : xX RX12 cX12_middle 4 (some .int) 3 0 [(0, .ref l0), (1, .int l1)] [] M (xQi Q) := by
  unfold FX12_middle at h
  refine x_aload_n dX12_middle_0 rfl 1 rfl ?_
  refine x_iconst dX12_middle_1 kc_0 2 rfl ?_
  refine pf12_0 dX12_middle_2 5 rfl hk_l0 kw5_159 (x_mem (fun M4 hM4 => ?_))
  have h := h M4 hM4
  refine x_aload_n dX12_middle_5 rfl 6 rfl ?_
  refine gf12_6 dX12_middle_6 9 rfl hk_l0 kw5_165 ?_
  refine x_if_eq dX12_middle_9 22 12 rfl rfl (fun hc => ?_) (fun hc => ?_)
  · have h := h.1 hc
    refine x_iconst dX12_middle_22 kc_m1 23 rfl ?_
    exact x_iret dX12_middle_23 h
  · have h := h.2 hc
    refine x_aload_n dX12_middle_12 rfl 13 rfl ?_
    refine x_iload_n dX12_middle_13 rfl 14 rfl ?_
    refine x_iconst dX12_middle_14 kc_0 15 rfl ?_
    refine x_iconst dX12_middle_15 kc_1 16 rfl ?_
    refine kX12_isIn dX12_middle_16 19 rfl hk_l0 kw6_82 (Nat.le_of_ble_eq_true rfl) (Nat.le_of_ble_eq_true rfl) h (fun r5 h => ?_)
    refine x_if_ne_b dX12_middle_19 24 22 rfl rfl (fun hc => ?_) (fun hc => ?_)
    · have h := h.1 hc
      refine x_iconst dX12_middle_24 kc_0 25 rfl ?_
      refine x_istore_n dX12_middle_25 (Nat.le_of_ble_eq_true rfl) [(0, .ref l0), (1, .int l1), (2, .int 0)] rfl 26 rfl ?_
      refine x_iconst dX12_middle_26 kc_1 27 rfl ?_
      refine x_istore_n dX12_middle_27 (Nat.le_of_ble_eq_true rfl) [(0, .ref l0), (1, .int l1), (2, .int 0), (3, .int 1)] rfl 28 rfl ?_
      exact nX12_middle_28 hk_l0 h
    · have h := h.2 hc
      refine x_iconst dX12_middle_22 kc_m1 23 rfl ?_
      exact x_iret dX12_middle_23 h
theorem cX12_middle_ {Q : Int32 → Mem → Prop} {l0 : Nat} {l1 : Int32} {M : Mem} (hk_l0 : SHk l0 = 12) (h : FX12_middle Q l0 l1 M) : xM yX12_middle cX12_middle 4 (some .int) 3 [.ref l0, .int l1] M (xQi Q) := xM_of (by decide +kernel) (Nat.le_of_ble_eq_true rfl) (eX12_middle hk_l0 h)
theorem kX12_middle {own : String} {cc : ByteArray} {nL : Nat} {rt : Option FieldType} {d pc ix : Nat} {L : List (Nat × Value)} {st : List Value} {M : Mem} {Rt : xGt → Array Value → State → Outcome → State → Prop} {Q : Int32 → Mem → Prop} {l0 : Nat} {l1 : Int32} (hd : decode cc pc = .ok (.invokevirtual ix, 3)) (q : Nat) (hq : pc + 3 = q) (hk_l0 : SHk l0 = 12) (w1 : Cond.methodLink own ix yX12_middle ∈ xTs) (hr : 3 < d) (hst : (st.map fun v => v.category).sum ≤ 8) (h : FX12_middle Q l0 l1 M) (k : ∀ (r : Int32) (N : Mem), Q r N → xX own cc nL rt d q L (.int r :: st) N Rt) : xX own cc nL rt d pc L (.int l1 :: .ref l0 :: st) M Rt :=
  x_callV_i (n := 1) (As := [.int l1]) hd q hq hk_l0 (by decide) rfl rfl w1 kw7_235 kw7_236 kw1_14 kw7_237 (by decide +kernel) rfl hr (by decide) hst _ rfl (cX12_middle_ hk_l0 h) k
def lbX12_followsBut_17 (Q : Int32 → Prop) (B5 : Int32 → Int32 → Prop) (l0 : Nat) (l2 : Int32) (l4 : Int32) (M : Mem) (B17 : Int32 → Int32 → Prop) (l3 : Int32) (l5 : Int32) : Prop :=
  (((M l0 37) ≤ l5 → B5 l3 l4) ∧ (¬ (M l0 37) ≤ l5 → ((l5 = l2 → B17 l3 (l5 + 1)) ∧ (¬ l5 = l2 → vp_in (2 * l5) 64 ∧ ((¬ ((M (l0 + 18) (ix (2 * l5))) &&& (l3 ^^^ (-1))) = 0 → B17 l3 (l5 + 1)) ∧ (((M (l0 + 18) (ix (2 * l5))) &&& (l3 ^^^ (-1))) = 0 → vp_in ((2 * l5) + 1) 64 ∧ ∀ y1 : Int32, y1 = l3 ||| ((1 : Int32) <<< ((M (l0 + 18) (ix ((2 * l5) + 1))) &&& 31)) → B17 y1 (l5 + 1)))))))
def NX12_followsBut_17 (Q : Int32 → Prop) (B5 : Int32 → Int32 → Prop) (l0 : Nat) (l2 : Int32) (l3 : Int32) (l4 : Int32) (l5 : Int32) (M : Mem) : Prop := xlp (fun (B : Int32 × Int32 → Prop) a => lbX12_followsBut_17 Q B5 l0 l2 l4 M (fun l3 l5 => B (l3, l5)) a.1 a.2) (l3, l5)
theorem nX12_followsBut_17 {Q : Int32 → Prop} {B5 : Int32 → Int32 → Prop} {l0 : Nat} {l2 : Int32} {l3 : Int32} {l4 : Int32} {l5 : Int32} {M : Mem} (hB5 : ∀ (l3 : Int32) (l4 : Int32), B5 l3 l4 → xX RX12 cX12_followsBut 6 (some .int) 1 5 [(0, .ref l0), (2, .int l2), (3, .int l3), (4, .int l4)] [] M (xQi (xP M Q))) (hk_l0 : SHk l0 = 12) (h : NX12_followsBut_17 Q B5 l0 l2 l3 l4 l5 M) : xX RX12 cX12_followsBut 6 (some .int) 1 17 [(0, .ref l0), (2, .int l2), (3, .int l3), (4, .int l4), (5, .int l5)] [] M (xQi (xP M Q)) := by
  obtain ⟨n, h⟩ := h
  have hB17 : ∀ (n : Nat) (l3 : Int32) (l5 : Int32), xlpn (fun (B : Int32 × Int32 → Prop) a => lbX12_followsBut_17 Q B5 l0 l2 l4 M (fun l3 l5 => B (l3, l5)) a.1 a.2) n (l3, l5) → xX RX12 cX12_followsBut 6 (some .int) 1 17 [(0, .ref l0), (2, .int l2), (3, .int l3), (4, .int l4), (5, .int l5)] [] M (xQi (xP M Q)) := by
    intro n
    induction n with
    | zero => intro l3 l5 h; exact False.elim h
    | succ n ih =>
      intro l3 l5 h
      have hB17 := ih
      have h : lbX12_followsBut_17 Q B5 l0 l2 l4 M (fun l3 l5 => xlpn (fun (B : Int32 × Int32 → Prop) a => lbX12_followsBut_17 Q B5 l0 l2 l4 M (fun l3 l5 => B (l3, l5)) a.1 a.2) n (l3, l5)) l3 l5 := h
      unfold lbX12_followsBut_17 at h
      refine x_iload dX12_followsBut_17 rfl 19 rfl ?_
      refine x_aload_n dX12_followsBut_19 rfl 20 rfl ?_
      refine gf12_37 dX12_followsBut_20 23 rfl hk_l0 kw5_196 ?_
      refine x_icmp_ge dX12_followsBut_23 70 26 rfl rfl (fun hc => ?_) (fun hc => ?_)
      · have h := h.1 hc
        refine x_goto dX12_followsBut_70 5 rfl ?_
        refine x_weak [(0, .ref l0), (2, .int l2), (3, .int l3), (4, .int l4)] [0, 1, 2, 3] rfl ?_
        exact hB5 _ _ h
      · have h := h.2 hc
        refine x_iload dX12_followsBut_26 rfl 28 rfl ?_
        refine x_iload_n dX12_followsBut_28 rfl 29 rfl ?_
        refine x_icmp_eq dX12_followsBut_29 64 32 rfl rfl (fun hc => ?_) (fun hc => ?_)
        · have h := h.1 hc
          refine x_iinc dX12_followsBut_64 rfl (congrArg (l5 + ·) kc_1) (Nat.le_of_ble_eq_true rfl) [(0, .ref l0), (2, .int l2), (3, .int l3), (4, .int l4), (5, .int (l5 + 1))] rfl 67 rfl ?_
          refine x_goto dX12_followsBut_67 17 rfl ?_
          exact hB17 _ _ h
        · have h := h.2 hc
          refine x_aload_n dX12_followsBut_32 rfl 33 rfl ?_
          refine gf12_38 dX12_followsBut_33 36 rfl hk_l0 kw5_197 ?_
          refine x_iconst dX12_followsBut_36 kc_2 37 rfl ?_
          refine x_iload dX12_followsBut_37 rfl 39 rfl ?_
          refine x_imul dX12_followsBut_39 40 rfl ?_
          obtain ⟨hin, h⟩ := h
          refine x_iaload dX12_followsBut_40 (ly12_38 hk_l0) hin 41 rfl ?_
          refine x_iload_n dX12_followsBut_41 rfl 42 rfl ?_
          refine x_iconst dX12_followsBut_42 kc_m1 43 rfl ?_
          refine x_ixor dX12_followsBut_43 44 rfl ?_
          refine x_iand dX12_followsBut_44 45 rfl ?_
          refine x_if_ne dX12_followsBut_45 64 48 rfl rfl (fun hc => ?_) (fun hc => ?_)
          · have h := h.1 hc
            refine x_iinc dX12_followsBut_64 rfl (congrArg (l5 + ·) kc_1) (Nat.le_of_ble_eq_true rfl) [(0, .ref l0), (2, .int l2), (3, .int l3), (4, .int l4), (5, .int (l5 + 1))] rfl 67 rfl ?_
            refine x_goto dX12_followsBut_67 17 rfl ?_
            exact hB17 _ _ h
          · have h := h.2 hc
            refine x_iload_n dX12_followsBut_48 rfl 49 rfl ?_
            refine x_iconst dX12_followsBut_49 kc_1 50 rfl ?_
            refine x_aload_n dX12_followsBut_50 rfl 51 rfl ?_
            refine gf12_38 dX12_followsBut_51 54 rfl hk_l0 kw5_197 ?_
            refine x_iconst dX12_followsBut_54 kc_2 55 rfl ?_
            refine x_iload dX12_followsBut_55 rfl 57 rfl ?_
            refine x_imul dX12_followsBut_57 58 rfl ?_
            refine x_iconst dX12_followsBut_58 kc_1 59 rfl ?_
            refine x_iadd dX12_followsBut_59 60 rfl ?_
            obtain ⟨hin, h⟩ := h
            refine x_iaload dX12_followsBut_60 (ly12_38 hk_l0) hin 61 rfl ?_
            refine x_ishl dX12_followsBut_61 62 rfl ?_
            refine x_ior dX12_followsBut_62 63 rfl ?_
            refine x_top (fun y1 hy1 => ?_)
            have h := h y1 hy1
            refine x_istore_n dX12_followsBut_63 (Nat.le_of_ble_eq_true rfl) [(0, .ref l0), (2, .int l2), (3, .int y1), (4, .int l4), (5, .int l5)] rfl 64 rfl ?_
            refine x_iinc dX12_followsBut_64 rfl (congrArg (l5 + ·) kc_1) (Nat.le_of_ble_eq_true rfl) [(0, .ref l0), (2, .int l2), (3, .int y1), (4, .int l4), (5, .int (l5 + 1))] rfl 67 rfl ?_
            refine x_goto dX12_followsBut_67 17 rfl ?_
            exact hB17 _ _ h
  exact hB17 n l3 l5 h
def lbX12_followsBut_5 (Q : Int32 → Prop) (l0 : Nat) (l2 : Int32) (M : Mem) (B5 : Int32 → Int32 → Prop) (l3 : Int32) (l4 : Int32) : Prop :=
  ((l4 = l3 → Q l3) ∧ (¬ l4 = l3 → NX12_followsBut_17 Q B5 l0 l2 l3 l3 0 M))
def NX12_followsBut_5 (Q : Int32 → Prop) (l0 : Nat) (l2 : Int32) (l3 : Int32) (l4 : Int32) (M : Mem) : Prop := xlp (fun (B : Int32 × Int32 → Prop) a => lbX12_followsBut_5 Q l0 l2 M (fun l3 l4 => B (l3, l4)) a.1 a.2) (l3, l4)
theorem nX12_followsBut_5 {Q : Int32 → Prop} {l0 : Nat} {l2 : Int32} {l3 : Int32} {l4 : Int32} {M : Mem} (hk_l0 : SHk l0 = 12) (h : NX12_followsBut_5 Q l0 l2 l3 l4 M) : xX RX12 cX12_followsBut 6 (some .int) 1 5 [(0, .ref l0), (2, .int l2), (3, .int l3), (4, .int l4)] [] M (xQi (xP M Q)) := by
  obtain ⟨n, h⟩ := h
  have hB5 : ∀ (n : Nat) (l3 : Int32) (l4 : Int32), xlpn (fun (B : Int32 × Int32 → Prop) a => lbX12_followsBut_5 Q l0 l2 M (fun l3 l4 => B (l3, l4)) a.1 a.2) n (l3, l4) → xX RX12 cX12_followsBut 6 (some .int) 1 5 [(0, .ref l0), (2, .int l2), (3, .int l3), (4, .int l4)] [] M (xQi (xP M Q)) := by
    intro n
    induction n with
    | zero => intro l3 l4 h; exact False.elim h
    | succ n ih =>
      intro l3 l4 h
      have hB5 := ih
      have h : lbX12_followsBut_5 Q l0 l2 M (fun l3 l4 => xlpn (fun (B : Int32 × Int32 → Prop) a => lbX12_followsBut_5 Q l0 l2 M (fun l3 l4 => B (l3, l4)) a.1 a.2) n (l3, l4)) l3 l4 := h
      unfold lbX12_followsBut_5 at h
      refine x_iload dX12_followsBut_5 rfl 7 rfl ?_
      refine x_iload_n dX12_followsBut_7 rfl 8 rfl ?_
      refine x_icmp_eq dX12_followsBut_8 73 11 rfl rfl (fun hc => ?_) (fun hc => ?_)
      · have h := h.1 hc
        refine x_iload_n dX12_followsBut_73 rfl 74 rfl ?_
        exact x_iret dX12_followsBut_74 ⟨rfl, h⟩
      · have h := h.2 hc
        refine x_iload_n dX12_followsBut_11 rfl 12 rfl ?_
        refine x_istore dX12_followsBut_12 (Nat.le_of_ble_eq_true rfl) [(0, .ref l0), (2, .int l2), (3, .int l3), (4, .int l3)] rfl 14 rfl ?_
        refine x_iconst dX12_followsBut_14 kc_0 15 rfl ?_
        refine x_istore dX12_followsBut_15 (Nat.le_of_ble_eq_true rfl) [(0, .ref l0), (2, .int l2), (3, .int l3), (4, .int l3), (5, .int 0)] rfl 17 rfl ?_
        exact nX12_followsBut_17 hB5 hk_l0 h
  exact hB5 n l3 l4 h
def FX12_followsBut (Q : Int32 → Prop) (l0 : Nat) (l1 : Int32) (l2 : Int32) (M : Mem) : Prop :=
  NX12_followsBut_5 Q l0 l2 l1 (-1) M
theorem eX12_followsBut {Q : Int32 → Prop} {l0 : Nat} {l1 : Int32} {l2 : Int32} {M : Mem} (hk_l0 : SHk l0 = 12) (h : FX12_followsBut Q l0 l1 l2 M) : xX RX12 cX12_followsBut 6 (some .int) 1 0 [(0, .ref l0), (1, .int l1), (2, .int l2)] [] M (xQi (xP M Q)) := by
  unfold FX12_followsBut at h
  refine x_iload_n dX12_followsBut_0 rfl 1 rfl ?_
  refine x_istore_n dX12_followsBut_1 (Nat.le_of_ble_eq_true rfl) [(0, .ref l0), (1, .int l1), (2, .int l2), (3, .int l1)] rfl 2 rfl ?_
  refine x_iconst dX12_followsBut_2 kc_m1 3 rfl ?_
  refine x_istore dX12_followsBut_3 (Nat.le_of_ble_eq_true rfl) [(0, .ref l0), (1, .int l1), (2, .int l2), (3, .int l1), (4, .int (-1))] rfl 5 rfl ?_
  refine x_weak [(0, .ref l0), (2, .int l2), (3, .int l1), (4, .int (-1))] [0, 2, 3, 4] rfl ?_
  exact nX12_followsBut_5 hk_l0 h
theorem cX12_followsBut_ {Q : Int32 → Prop} {l0 : Nat} {l1 : Int32} {l2 : Int32} {M : Mem} (hk_l0 : SHk l0 = 12) (h : FX12_followsBut Q l0 l1 l2 M) : xM yX12_followsBut cX12_followsBut 6 (some .int) 1 [.ref l0, .int l1, .int l2] M (xQi (xP M Q)) := xM_of (by decide +kernel) (Nat.le_of_ble_eq_true rfl) (eX12_followsBut hk_l0 h)
theorem kX12_followsBut {own : String} {cc : ByteArray} {nL : Nat} {rt : Option FieldType} {d pc ix : Nat} {L : List (Nat × Value)} {st : List Value} {M : Mem} {Rt : xGt → Array Value → State → Outcome → State → Prop} {Q : Int32 → Prop} {l0 : Nat} {l1 : Int32} {l2 : Int32} (hd : decode cc pc = .ok (.invokevirtual ix, 3)) (q : Nat) (hq : pc + 3 = q) (hk_l0 : SHk l0 = 12) (w1 : Cond.methodLink own ix yX12_followsBut ∈ xTs) (hr : 1 < d) (hst : (st.map fun v => v.category).sum ≤ 8) (h : FX12_followsBut Q l0 l1 l2 M) (k : ∀ (r : Int32), Q r → xX own cc nL rt d q L (.int r :: st) M Rt) : xX own cc nL rt d pc L (.int l2 :: .int l1 :: .ref l0 :: st) M Rt :=
  x_callV_i (n := 2) (As := [.int l1, .int l2]) hd q hq hk_l0 (by decide) rfl rfl w1 kw8_13 ks8_3 kw1_14 kw8_14 (by decide +kernel) rfl hr (by decide) hst _ rfl (cX12_followsBut_ hk_l0 h) (fun r N hN => by obtain ⟨rfl, hN⟩ := hN; exact k r hN)
def FX12_follows (Q : Int32 → Mem → Prop) (l0 : Nat) (l1 : Int32) (M : Mem) : Prop :=
  ∀ M1 : Mem, M1 = xu M l0 0 0 → FX12_isIn (fun (r2 : Bool) => ((r2 = false → Q (-1) M1) ∧ (r2 = true → FX12_followsBut (fun (r3 : Int32) => Q r3 M1) l0 l1 (-1) M1))) l0 l1 0 65535 M1
theorem eX12_follows {Q : Int32 → Mem → Prop} {l0 : Nat} {l1 : Int32} {M : Mem} (hk_l0 : SHk l0 = 12) (h : FX12_follows Q l0 l1 M) : xX RX12 cX12_follows 2 (some .int) 2 0 [(0, .ref l0), (1, .int l1)] [] M (xQi Q) := by
  unfold FX12_follows at h
  refine x_aload_n dX12_follows_0 rfl 1 rfl ?_
  refine x_iconst dX12_follows_1 kc_0 2 rfl ?_
  refine pf12_0 dX12_follows_2 5 rfl hk_l0 kw5_159 (x_mem (fun M1 hM1 => ?_))
  have h := h M1 hM1
  refine x_aload_n dX12_follows_5 rfl 6 rfl ?_
  refine x_iload_n dX12_follows_6 rfl 7 rfl ?_
  refine x_iconst dX12_follows_7 kc_0 8 rfl ?_
  refine x_ldcw dX12_follows_8 kw8_10 11 rfl ?_
  refine kX12_isIn dX12_follows_11 14 rfl hk_l0 kw6_82 (Nat.le_of_ble_eq_true rfl) (Nat.le_of_ble_eq_true rfl) h (fun r2 h => ?_)
  refine x_if_eq_b dX12_follows_14 26 17 rfl rfl (fun hc => ?_) (fun hc => ?_)
  · have h := h.1 hc
    refine x_iconst dX12_follows_26 kc_m1 27 rfl ?_
    exact x_iret dX12_follows_27 h
  · have h := h.2 hc
    refine x_aload_n dX12_follows_17 rfl 18 rfl ?_
    refine x_iload_n dX12_follows_18 rfl 19 rfl ?_
    refine x_iconst dX12_follows_19 kc_m1 20 rfl ?_
    refine kX12_followsBut dX12_follows_20 23 rfl hk_l0 kw8_11 (Nat.le_of_ble_eq_true rfl) (Nat.le_of_ble_eq_true rfl) h (fun r3 h => ?_)
    refine x_goto dX12_follows_23 27 rfl ?_
    exact x_iret dX12_follows_27 h
theorem cX12_follows_ {Q : Int32 → Mem → Prop} {l0 : Nat} {l1 : Int32} {M : Mem} (hk_l0 : SHk l0 = 12) (h : FX12_follows Q l0 l1 M) : xM yX12_follows cX12_follows 2 (some .int) 2 [.ref l0, .int l1] M (xQi Q) := xM_of (by decide +kernel) (Nat.le_of_ble_eq_true rfl) (eX12_follows hk_l0 h)
theorem kX12_follows {own : String} {cc : ByteArray} {nL : Nat} {rt : Option FieldType} {d pc ix : Nat} {L : List (Nat × Value)} {st : List Value} {M : Mem} {Rt : xGt → Array Value → State → Outcome → State → Prop} {Q : Int32 → Mem → Prop} {l0 : Nat} {l1 : Int32} (hd : decode cc pc = .ok (.invokevirtual ix, 3)) (q : Nat) (hq : pc + 3 = q) (hk_l0 : SHk l0 = 12) (w1 : Cond.methodLink own ix yX12_follows ∈ xTs) (hr : 2 < d) (hst : (st.map fun v => v.category).sum ≤ 8) (h : FX12_follows Q l0 l1 M) (k : ∀ (r : Int32) (N : Mem), Q r N → xX own cc nL rt d q L (.int r :: st) N Rt) : xX own cc nL rt d pc L (.int l1 :: .ref l0 :: st) M Rt :=
  x_callV_i (n := 1) (As := [.int l1]) hd q hq hk_l0 (by decide) rfl rfl w1 kw8_7 kw8_8 kw1_14 kw8_9 (by decide +kernel) rfl hr (by decide) hst _ rfl (cX12_follows_ hk_l0 h) k
def lbX12_idle_4 (Q : Int32 → Prop) (l0 : Nat) (M : Mem) (B4 : Int32 → Int32 → Prop) (l1 : Int32) (l2 : Int32) : Prop :=
  (((M l0 37) ≤ l2 → Q l1) ∧ (¬ (M l0 37) ≤ l2 → vp_in (2 * l2) 64 ∧ FX12_followsBut (fun (r1 : Int32) => vp_in ((2 * l2) + 1) 64 ∧ FX12_has (fun (r2 : Bool) => ((r2 = false → B4 l1 (l2 + 1)) ∧ (r2 = true → B4 (l1 + 1) (l2 + 1)))) l0 r1 (M (l0 + 18) (ix ((2 * l2) + 1))) M) l0 (M (l0 + 18) (ix (2 * l2))) l2 M))
def NX12_idle_4 (Q : Int32 → Prop) (l0 : Nat) (l1 : Int32) (l2 : Int32) (M : Mem) : Prop := xlp (fun (B : Int32 × Int32 → Prop) a => lbX12_idle_4 Q l0 M (fun l1 l2 => B (l1, l2)) a.1 a.2) (l1, l2)
theorem nX12_idle_4 {Q : Int32 → Prop} {l0 : Nat} {l1 : Int32} {l2 : Int32} {M : Mem} (hk_l0 : SHk l0 = 12) (h : NX12_idle_4 Q l0 l1 l2 M) : xX RX12 cX12_idle 3 (some .int) 2 4 [(0, .ref l0), (1, .int l1), (2, .int l2)] [] M (xQi (xP M Q)) := by
  obtain ⟨n, h⟩ := h
  have hB4 : ∀ (n : Nat) (l1 : Int32) (l2 : Int32), xlpn (fun (B : Int32 × Int32 → Prop) a => lbX12_idle_4 Q l0 M (fun l1 l2 => B (l1, l2)) a.1 a.2) n (l1, l2) → xX RX12 cX12_idle 3 (some .int) 2 4 [(0, .ref l0), (1, .int l1), (2, .int l2)] [] M (xQi (xP M Q)) := by
    intro n
    induction n with
    | zero => intro l1 l2 h; exact False.elim h
    | succ n ih =>
      intro l1 l2 h
      have hB4 := ih
      have h : lbX12_idle_4 Q l0 M (fun l1 l2 => xlpn (fun (B : Int32 × Int32 → Prop) a => lbX12_idle_4 Q l0 M (fun l1 l2 => B (l1, l2)) a.1 a.2) n (l1, l2)) l1 l2 := h
      unfold lbX12_idle_4 at h
      refine x_iload_n dX12_idle_4 rfl 5 rfl ?_
      refine x_aload_n dX12_idle_5 rfl 6 rfl ?_
      refine gf12_37 dX12_idle_6 9 rfl hk_l0 kw5_196 ?_
      refine x_icmp_ge dX12_idle_9 52 12 rfl rfl (fun hc => ?_) (fun hc => ?_)
      · have h := h.1 hc
        refine x_iload_n dX12_idle_52 rfl 53 rfl ?_
        exact x_iret dX12_idle_53 ⟨rfl, h⟩
      · have h := h.2 hc
        refine x_aload_n dX12_idle_12 rfl 13 rfl ?_
        refine x_aload_n dX12_idle_13 rfl 14 rfl ?_
        refine x_aload_n dX12_idle_14 rfl 15 rfl ?_
        refine gf12_38 dX12_idle_15 18 rfl hk_l0 kw5_197 ?_
        refine x_iconst dX12_idle_18 kc_2 19 rfl ?_
        refine x_iload_n dX12_idle_19 rfl 20 rfl ?_
        refine x_imul dX12_idle_20 21 rfl ?_
        obtain ⟨hin, h⟩ := h
        refine x_iaload dX12_idle_21 (ly12_38 hk_l0) hin 22 rfl ?_
        refine x_iload_n dX12_idle_22 rfl 23 rfl ?_
        refine kX12_followsBut dX12_idle_23 26 rfl hk_l0 kw8_11 (Nat.le_of_ble_eq_true rfl) (Nat.le_of_ble_eq_true rfl) h (fun r1 h => ?_)
        refine x_aload_n dX12_idle_26 rfl 27 rfl ?_
        refine gf12_38 dX12_idle_27 30 rfl hk_l0 kw5_197 ?_
        refine x_iconst dX12_idle_30 kc_2 31 rfl ?_
        refine x_iload_n dX12_idle_31 rfl 32 rfl ?_
        refine x_imul dX12_idle_32 33 rfl ?_
        refine x_iconst dX12_idle_33 kc_1 34 rfl ?_
        refine x_iadd dX12_idle_34 35 rfl ?_
        obtain ⟨hin, h⟩ := h
        refine x_iaload dX12_idle_35 (ly12_38 hk_l0) hin 36 rfl ?_
        refine kX12_has dX12_idle_36 39 rfl hk_l0 kw8_23 (Nat.le_of_ble_eq_true rfl) (Nat.le_of_ble_eq_true rfl) h (fun r2 h => ?_)
        refine x_if_eq_b dX12_idle_39 46 42 rfl rfl (fun hc => ?_) (fun hc => ?_)
        · have h := h.1 hc
          refine x_iinc dX12_idle_46 rfl (congrArg (l2 + ·) kc_1) (Nat.le_of_ble_eq_true rfl) [(0, .ref l0), (1, .int l1), (2, .int (l2 + 1))] rfl 49 rfl ?_
          refine x_goto dX12_idle_49 4 rfl ?_
          exact hB4 _ _ h
        · have h := h.2 hc
          refine x_iload_n dX12_idle_42 rfl 43 rfl ?_
          refine x_iconst dX12_idle_43 kc_1 44 rfl ?_
          refine x_iadd dX12_idle_44 45 rfl ?_
          refine x_istore_n dX12_idle_45 (Nat.le_of_ble_eq_true rfl) [(0, .ref l0), (1, .int (l1 + 1)), (2, .int l2)] rfl 46 rfl ?_
          refine x_iinc dX12_idle_46 rfl (congrArg (l2 + ·) kc_1) (Nat.le_of_ble_eq_true rfl) [(0, .ref l0), (1, .int (l1 + 1)), (2, .int (l2 + 1))] rfl 49 rfl ?_
          refine x_goto dX12_idle_49 4 rfl ?_
          exact hB4 _ _ h
  exact hB4 n l1 l2 h
def FX12_idle (Q : Int32 → Prop) (l0 : Nat) (M : Mem) : Prop :=
  NX12_idle_4 Q l0 0 0 M
theorem eX12_idle {Q : Int32 → Prop} {l0 : Nat} {M : Mem} (hk_l0 : SHk l0 = 12) (h : FX12_idle Q l0 M) : xX RX12 cX12_idle 3 (some .int) 2 0 [(0, .ref l0)] [] M (xQi (xP M Q)) := by
  unfold FX12_idle at h
  refine x_iconst dX12_idle_0 kc_0 1 rfl ?_
  refine x_istore_n dX12_idle_1 (Nat.le_of_ble_eq_true rfl) [(0, .ref l0), (1, .int 0)] rfl 2 rfl ?_
  refine x_iconst dX12_idle_2 kc_0 3 rfl ?_
  refine x_istore_n dX12_idle_3 (Nat.le_of_ble_eq_true rfl) [(0, .ref l0), (1, .int 0), (2, .int 0)] rfl 4 rfl ?_
  exact nX12_idle_4 hk_l0 h
theorem cX12_idle_ {Q : Int32 → Prop} {l0 : Nat} {M : Mem} (hk_l0 : SHk l0 = 12) (h : FX12_idle Q l0 M) : xM yX12_idle cX12_idle 3 (some .int) 2 [.ref l0] M (xQi (xP M Q)) := xM_of (by decide +kernel) (Nat.le_of_ble_eq_true rfl) (eX12_idle hk_l0 h)
theorem kX12_idle {own : String} {cc : ByteArray} {nL : Nat} {rt : Option FieldType} {d pc ix : Nat} {L : List (Nat × Value)} {st : List Value} {M : Mem} {Rt : xGt → Array Value → State → Outcome → State → Prop} {Q : Int32 → Prop} {l0 : Nat} (hd : decode cc pc = .ok (.invokevirtual ix, 3)) (q : Nat) (hq : pc + 3 = q) (hk_l0 : SHk l0 = 12) (w1 : Cond.methodLink own ix yX12_idle ∈ xTs) (hr : 2 < d) (hst : (st.map fun v => v.category).sum ≤ 8) (h : FX12_idle Q l0 M) (k : ∀ (r : Int32), Q r → xX own cc nL rt d q L (.int r :: st) M Rt) : xX own cc nL rt d pc L (.ref l0 :: st) M Rt :=
  x_callV_i (n := 0) (As := []) hd q hq hk_l0 (by decide) rfl rfl w1 kw8_21 ks8_4 kw1_14 kw8_22 (by decide +kernel) rfl hr (by decide) hst _ rfl (cX12_idle_ hk_l0 h) (fun r N hN => by obtain ⟨rfl, hN⟩ := hN; exact k r hN)
