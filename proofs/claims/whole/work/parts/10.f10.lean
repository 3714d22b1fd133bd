def lbX12_basketGoes_63 (Q : Mem → Prop) (l0 : Nat) (B63 : Int32 → Mem → Prop) (l1 : Int32) (M : Mem) : Prop :=
  (((M (l0 + 1) 6) ≤ l1 → Q M) ∧ (¬ (M (l0 + 1) 6) ≤ l1 → vp_in (93 + l1) 107 ∧ vp_in (93 + l1) 107 ∧ vp_in (35 + (M (l0 + 1) (ix (93 + l1)))) 107 ∧ FX12_lesser (fun (r1 : Int32) => vp_in (35 + (M (l0 + 1) (ix (93 + l1)))) 107 ∧ ∀ M2 : Mem, M2 = xu M (l0 + 1) (ix (35 + (M (l0 + 1) (ix (93 + l1))))) r1 → B63 (l1 + 1) M2) l0 99 ((M (l0 + 1) (ix (35 + (M (l0 + 1) (ix (93 + l1)))))) + 1) M))
def NX12_basketGoes_63 (Q : Mem → Prop) (l0 : Nat) (l1 : Int32) (M : Mem) : Prop := xlp (fun (B : Int32 × Mem → Prop) a => lbX12_basketGoes_63 Q l0 (fun l1 M => B (l1, M)) a.1 a.2) (l1, M)
theorem nX12_basketGoes_63 {Q : Mem → Prop} {l0 : Nat} {l1 : Int32} {M : Mem} (hk_l0 : SHk l0 = 12) (h : NX12_basketGoes_63 Q l0 l1 M) : xX RX12 cX12_basketGoes 2 none 7 63 [(0, .ref l0), (1, .int l1)] [] M (xQv Q) := by
  obtain ⟨n, h⟩ := h
  have hB63 : ∀ (n : Nat) (l1 : Int32) (M : Mem), xlpn (fun (B : Int32 × Mem → Prop) a => lbX12_basketGoes_63 Q l0 (fun l1 M => B (l1, M)) a.1 a.2) n (l1, M) → xX RX12 cX12_basketGoes 2 none 7 63 [(0, .ref l0), (1, .int l1)] [] M (xQv Q) := by
    intro n
    induction n with
    | zero => intro l1 M h; exact False.elim h
    | succ n ih =>
      intro l1 M h
      have hB63 := ih
      have h : lbX12_basketGoes_63 Q l0 (fun l1 M => xlpn (fun (B : Int32 × Mem → Prop) a => lbX12_basketGoes_63 Q l0 (fun l1 M => B (l1, M)) a.1 a.2) n (l1, M)) l1 M := h
      unfold lbX12_basketGoes_63 at h
      refine x_iload_n dX12_basketGoes_63 rfl 64 rfl ?_
      refine x_aload_n dX12_basketGoes_64 rfl 65 rfl ?_
      refine gf12_1 dX12_basketGoes_65 68 rfl hk_l0 kw5_160 ?_
      refine x_bipush dX12_basketGoes_68 kb_6 70 rfl ?_
      refine x_iaload dX12_basketGoes_70 (ly12_1 hk_l0) (by unfold vp_in; decide) 71 rfl ?_
      refine x_icmp_ge dX12_basketGoes_71 122 74 rfl rfl (fun hc => ?_) (fun hc => ?_)
      · have h := h.1 hc
        exact x_vret dX12_basketGoes_122 h
      · have h := h.2 hc
        refine x_aload_n dX12_basketGoes_74 rfl 75 rfl ?_
        refine gf12_1 dX12_basketGoes_75 78 rfl hk_l0 kw5_160 ?_
        refine x_bipush dX12_basketGoes_78 kb_35 80 rfl ?_
        refine x_aload_n dX12_basketGoes_80 rfl 81 rfl ?_
        refine gf12_1 dX12_basketGoes_81 84 rfl hk_l0 kw5_160 ?_
        refine x_bipush dX12_basketGoes_84 kb_93 86 rfl ?_
        refine x_iload_n dX12_basketGoes_86 rfl 87 rfl ?_
        refine x_iadd dX12_basketGoes_87 88 rfl ?_
        obtain ⟨hin, h⟩ := h
        refine x_iaload dX12_basketGoes_88 (ly12_1 hk_l0) hin 89 rfl ?_
        refine x_iadd dX12_basketGoes_89 90 rfl ?_
        refine x_aload_n dX12_basketGoes_90 rfl 91 rfl ?_
        refine x_bipush dX12_basketGoes_91 kb_99 93 rfl ?_
        refine x_aload_n dX12_basketGoes_93 rfl 94 rfl ?_
        refine gf12_1 dX12_basketGoes_94 97 rfl hk_l0 kw5_160 ?_
        refine x_bipush dX12_basketGoes_97 kb_35 99 rfl ?_
        refine x_aload_n dX12_basketGoes_99 rfl 100 rfl ?_
        refine gf12_1 dX12_basketGoes_100 103 rfl hk_l0 kw5_160 ?_
        refine x_bipush dX12_basketGoes_103 kb_93 105 rfl ?_
        refine x_iload_n dX12_basketGoes_105 rfl 106 rfl ?_
        refine x_iadd dX12_basketGoes_106 107 rfl ?_
        obtain ⟨hin, h⟩ := h
        refine x_iaload dX12_basketGoes_107 (ly12_1 hk_l0) hin 108 rfl ?_
        refine x_iadd dX12_basketGoes_108 109 rfl ?_
        obtain ⟨hin, h⟩ := h
        refine x_iaload dX12_basketGoes_109 (ly12_1 hk_l0) hin 110 rfl ?_
        refine x_iconst dX12_basketGoes_110 kc_1 111 rfl ?_
        refine x_iadd dX12_basketGoes_111 112 rfl ?_
        refine kX12_lesser dX12_basketGoes_112 115 rfl hk_l0 kw7_62 (Nat.le_of_ble_eq_true rfl) (Nat.le_of_ble_eq_true rfl) h (fun r1 h => ?_)
        obtain ⟨hin, h⟩ := h
        refine x_iastore dX12_basketGoes_115 (ly12_1 hk_l0) hin 116 rfl (x_mem (fun M2 hM2 => ?_))
        have h := h M2 hM2
        refine x_iinc dX12_basketGoes_116 rfl (congrArg (l1 + ·) kc_1) (Nat.le_of_ble_eq_true rfl) [(0, .ref l0), (1, .int (l1 + 1))] rfl 119 rfl ?_
        refine x_goto dX12_basketGoes_119 63 rfl ?_
        exact hB63 _ _ h
  exact hB63 n l1 M h
def lbX12_basketGoes_7 (Q : Mem → Prop) (l0 : Nat) (B7 : Int32 → Mem → Prop) (l1 : Int32) (M : Mem) : Prop :=
  ((l1 < 0 → ∀ M3 : Mem, M3 = xu M (l0 + 1) (4) ((M (l0 + 1) 4) + (M (l0 + 1) 3)) → ∀ M4 : Mem, M4 = xu M3 (l0 + 1) (3) 0 → NX12_basketGoes_63 Q l0 0 M4) ∧ (¬ l1 < 0 → FX12_sitterOf (fun (r5 : Int32) => ((r5 = (-1) → B7 (l1 + (-1)) M) ∧ (¬ r5 = (-1) → FX12_sitterOf (fun (r6 : Int32) => FX12_eats (fun (M7 : Mem) => B7 (l1 + (-1)) M7) l0 r6 M) l0 l1 M))) l0 l1 M))
def NX12_basketGoes_7 (Q : Mem → Prop) (l0 : Nat) (l1 : Int32) (M : Mem) : Prop := xlp (fun (B : Int32 × Mem → Prop) a => lbX12_basketGoes_7 Q l0 (fun l1 M => B (l1, M)) a.1 a.2) (l1, M)
theorem nX12_basketGoes_7 {Q : Mem → Prop} {l0 : Nat} {l1 : Int32} {M : Mem} (hk_l0 : SHk l0 = 12) (h : NX12_basketGoes_7 Q l0 l1 M) : xX RX12 cX12_basketGoes 2 none 7 7 [(0, .ref l0), (1, .int l1)] [] M (xQv Q) := by
  obtain ⟨n, h⟩ := h
  have hB7 : ∀ (n : Nat) (l1 : Int32) (M : Mem), xlpn (fun (B : Int32 × Mem → Prop) a => lbX12_basketGoes_7 Q l0 (fun l1 M => B (l1, M)) a.1 a.2) n (l1, M) → xX RX12 cX12_basketGoes 2 none 7 7 [(0, .ref l0), (1, .int l1)] [] M (xQv Q) := by
    intro n
    induction n with
    | zero => intro l1 M h; exact False.elim h
    | succ n ih =>
      intro l1 M h
      have hB7 := ih
      have h : lbX12_basketGoes_7 Q l0 (fun l1 M => xlpn (fun (B : Int32 × Mem → Prop) a => lbX12_basketGoes_7 Q l0 (fun l1 M => B (l1, M)) a.1 a.2) n (l1, M)) l1 M := h
      unfold lbX12_basketGoes_7 at h
      refine x_iload_n dX12_basketGoes_7 rfl 8 rfl ?_
      refine x_if_lt dX12_basketGoes_8 35 11 rfl rfl (fun hc => ?_) (fun hc => ?_)
      · have h := h.1 hc
        refine x_aload_n dX12_basketGoes_35 rfl 36 rfl ?_
        refine gf12_1 dX12_basketGoes_36 39 rfl hk_l0 kw5_160 ?_
        refine x_iconst dX12_basketGoes_39 kc_4 40 rfl ?_
        refine x_aload_n dX12_basketGoes_40 rfl 41 rfl ?_
        refine gf12_1 dX12_basketGoes_41 44 rfl hk_l0 kw5_160 ?_
        refine x_iconst dX12_basketGoes_44 kc_4 45 rfl ?_
        refine x_iaload dX12_basketGoes_45 (ly12_1 hk_l0) (by unfold vp_in; decide) 46 rfl ?_
        refine x_aload_n dX12_basketGoes_46 rfl 47 rfl ?_
        refine gf12_1 dX12_basketGoes_47 50 rfl hk_l0 kw5_160 ?_
        refine x_iconst dX12_basketGoes_50 kc_3 51 rfl ?_
        refine x_iaload dX12_basketGoes_51 (ly12_1 hk_l0) (by unfold vp_in; decide) 52 rfl ?_
        refine x_iadd dX12_basketGoes_52 53 rfl ?_
        refine x_iastore dX12_basketGoes_53 (ly12_1 hk_l0) (by unfold vp_in; decide) 54 rfl (x_mem (fun M3 hM3 => ?_))
        have h := h M3 hM3
        refine x_aload_n dX12_basketGoes_54 rfl 55 rfl ?_
        refine gf12_1 dX12_basketGoes_55 58 rfl hk_l0 kw5_160 ?_
        refine x_iconst dX12_basketGoes_58 kc_3 59 rfl ?_
        refine x_iconst dX12_basketGoes_59 kc_0 60 rfl ?_
        refine x_iastore dX12_basketGoes_60 (ly12_1 hk_l0) (by unfold vp_in; decide) 61 rfl (x_mem (fun M4 hM4 => ?_))
        have h := h M4 hM4
        refine x_iconst dX12_basketGoes_61 kc_0 62 rfl ?_
        refine x_istore_n dX12_basketGoes_62 (Nat.le_of_ble_eq_true rfl) [(0, .ref l0), (1, .int 0)] rfl 63 rfl ?_
        exact nX12_basketGoes_63 hk_l0 h
      · have h := h.2 hc
        refine x_aload_n dX12_basketGoes_11 rfl 12 rfl ?_
        refine x_iload_n dX12_basketGoes_12 rfl 13 rfl ?_
        refine kX12_sitterOf dX12_basketGoes_13 16 rfl hk_l0 kw6_90 (Nat.le_of_ble_eq_true rfl) (Nat.le_of_ble_eq_true rfl) h (fun r5 h => ?_)
        refine x_iconst dX12_basketGoes_16 kc_m1 17 rfl ?_
        refine x_icmp_eq dX12_basketGoes_17 29 20 rfl rfl (fun hc => ?_) (fun hc => ?_)
        · have h := h.1 hc
          refine x_iinc dX12_basketGoes_29 rfl (congrArg (l1 + ·) kc_m1) (Nat.le_of_ble_eq_true rfl) [(0, .ref l0), (1, .int (l1 + (-1)))] rfl 32 rfl ?_
          refine x_goto dX12_basketGoes_32 7 rfl ?_
          exact hB7 _ _ h
        · have h := h.2 hc
          refine x_aload_n dX12_basketGoes_20 rfl 21 rfl ?_
          refine x_aload_n dX12_basketGoes_21 rfl 22 rfl ?_
          refine x_iload_n dX12_basketGoes_22 rfl 23 rfl ?_
          refine kX12_sitterOf dX12_basketGoes_23 26 rfl hk_l0 kw6_90 (Nat.le_of_ble_eq_true rfl) (Nat.le_of_ble_eq_true rfl) h (fun r6 h => ?_)
          refine kX12_eats dX12_basketGoes_26 29 rfl hk_l0 kw7_90 (Nat.le_of_ble_eq_true rfl) (Nat.le_of_ble_eq_true rfl) h (fun M7 h => ?_)
          refine x_iinc dX12_basketGoes_29 rfl (congrArg (l1 + ·) kc_m1) (Nat.le_of_ble_eq_true rfl) [(0, .ref l0), (1, .int (l1 + (-1)))] rfl 32 rfl ?_
          refine x_goto dX12_basketGoes_32 7 rfl ?_
          exact hB7 _ _ h
  exact hB7 n l1 M h
def FX12_basketGoes (Q : Mem → Prop) (l0 : Nat) (M : Mem) : Prop :=
  NX12_basketGoes_7 Q l0 ((M l0 6) - 1) M
theorem eX12_basketGoes {Q : Mem → Prop} {l0 : Nat} {M : Mem} (hk_l0 : SHk l0 = 12) (h : FX12_basketGoes Q l0 M) : xX RX12 cX12_basketGoes 2 none 7 0 [(0, .ref l0)] [] M (xQv Q) := by
  unfold FX12_basketGoes at h
  refine x_aload_n dX12_basketGoes_0 rfl 1 rfl ?_
  refine gf12_6 dX12_basketGoes_1 4 rfl hk_l0 kw5_165 ?_
  refine x_iconst dX12_basketGoes_4 kc_1 5 rfl ?_
  refine x_isub dX12_basketGoes_5 6 rfl ?_
  refine x_istore_n dX12_basketGoes_6 (Nat.le_of_ble_eq_true rfl) [(0, .ref l0), (1, .int ((M l0 6) - 1))] rfl 7 rfl ?_
  exact nX12_basketGoes_7 hk_l0 h
theorem cX12_basketGoes_ {Q : Mem → Prop} {l0 : Nat} {M : Mem} (hk_l0 : SHk l0 = 12) (h : FX12_basketGoes Q l0 M) : xM yX12_basketGoes cX12_basketGoes 2 none 7 [.ref l0] M (xQv Q) := xM_of (by decide +kernel) (Nat.le_of_ble_eq_true rfl) (eX12_basketGoes hk_l0 h)
theorem kX12_basketGoes {own : String} {cc : ByteArray} {nL : Nat} {rt : Option FieldType} {d pc ix : Nat} {L : List (Nat × Value)} {st : List Value} {M : Mem} {Rt : xGt → Array Value → State → Outcome → State → Prop} {Q : Mem → Prop} {l0 : Nat} (hd : decode cc pc = .ok (.invokevirtual ix, 3)) (q : Nat) (hq : pc + 3 = q) (hk_l0 : SHk l0 = 12) (w1 : Cond.methodLink own ix yX12_basketGoes ∈ xTs) (hr : 7 < d) (hst : (st.map fun v => v.category).sum ≤ 8) (h : FX12_basketGoes Q l0 M) (k : ∀ (N : Mem), Q N → xX own cc nL rt d q L st N Rt) : xX own cc nL rt d pc L (.ref l0 :: st) M Rt :=
  x_callV_v (n := 0) (As := []) hd q hq hk_l0 (by decide) rfl rfl w1 kw7_88 ks6_6 kw1_14 kw7_89 (by decide +kernel) rfl hr (by decide) hst _ rfl (cX12_basketGoes_ hk_l0 h) k
def FX12_heardAs (Q : Int32 → Mem → Prop) (l0 : Nat) (l1 : Int32) (l2 : Int32) (M : Mem) : Prop :=
  FX12_sitterOf (fun (r1 : Int32) => ((¬ r1 = (-1) → FX12_leansOf (fun (r3 : Int32) (M2 : Mem) => FX12_partOf (fun (r4 : Int32) => FX12_held (fun (r5 : Int32) => Q r5 M2) l0 (l1 + r4) (-99) 99 M2) l0 r3 9 M2) l0 r1 M) ∧ (r1 = (-1) → Q l1 M))) l0 l2 M
theorem eX12_heardAs {Q : Int32 → Mem → Prop} {l0 : Nat} {l1 : Int32} {l2 : Int32} {M : Mem} (hk_l0 : SHk l0 = 12) (h : FX12_heardAs Q l0 l1 l2 M) : xX RX12 cX12_heardAs 4 (some .int) 6 0 [(0, .ref l0), (1, .int l1), (2, .int l2)] [] M (xQi Q) := by
  unfold FX12_heardAs at h
  refine x_aload_n dX12_heardAs_0 rfl 1 rfl ?_
  refine x_iload_n dX12_heardAs_1 rfl 2 rfl ?_
  refine kX12_sitterOf dX12_heardAs_2 5 rfl hk_l0 kw6_90 (Nat.le_of_ble_eq_true rfl) (Nat.le_of_ble_eq_true rfl) h (fun r1 h => ?_)
  refine x_istore_n dX12_heardAs_5 (Nat.le_of_ble_eq_true rfl) [(0, .ref l0), (1, .int l1), (2, .int l2), (3, .int r1)] rfl 6 rfl ?_
  refine x_iload_n dX12_heardAs_6 rfl 7 rfl ?_
  refine x_iconst dX12_heardAs_7 kc_m1 8 rfl ?_
  refine x_icmp_ne dX12_heardAs_8 15 11 rfl rfl (fun hc => ?_) (fun hc => ?_)
  · have h := h.1 hc
    refine x_aload_n dX12_heardAs_15 rfl 16 rfl ?_
    refine x_iload_n dX12_heardAs_16 rfl 17 rfl ?_
    refine x_aload_n dX12_heardAs_17 rfl 18 rfl ?_
    refine x_aload_n dX12_heardAs_18 rfl 19 rfl ?_
    refine x_iload_n dX12_heardAs_19 rfl 20 rfl ?_
    refine kX12_leansOf dX12_heardAs_20 23 rfl hk_l0 kw7_142 (Nat.le_of_ble_eq_true rfl) (Nat.le_of_ble_eq_true rfl) h (fun r3 M2 h => ?_)
    refine x_bipush dX12_heardAs_23 kb_9 25 rfl ?_
    refine kX12_partOf dX12_heardAs_25 28 rfl hk_l0 kw7_146 (Nat.le_of_ble_eq_true rfl) (Nat.le_of_ble_eq_true rfl) h (fun r4 h => ?_)
    refine x_iadd dX12_heardAs_28 29 rfl ?_
    refine x_bipush dX12_heardAs_29 kb_m99 31 rfl ?_
    refine x_bipush dX12_heardAs_31 kb_99 33 rfl ?_
    refine kX12_held dX12_heardAs_33 36 rfl hk_l0 kw7_126 (Nat.le_of_ble_eq_true rfl) (Nat.le_of_ble_eq_true rfl) h (fun r5 h => ?_)
    exact x_iret dX12_heardAs_36 h
  · have h := h.2 hc
    refine x_iload_n dX12_heardAs_11 rfl 12 rfl ?_
    refine x_goto dX12_heardAs_12 36 rfl ?_
    exact x_iret dX12_heardAs_36 h
theorem cX12_heardAs_ {Q : Int32 → Mem → Prop} {l0 : Nat} {l1 : Int32} {l2 : Int32} {M : Mem} (hk_l0 : SHk l0 = 12) (h : FX12_heardAs Q l0 l1 l2 M) : xM yX12_heardAs cX12_heardAs 4 (some .int) 6 [.ref l0, .int l1, .int l2] M (xQi Q) := xM_of (by decide +kernel) (Nat.le_of_ble_eq_true rfl) (eX12_heardAs hk_l0 h)
theorem kX12_heardAs {own : String} {cc : ByteArray} {nL : Nat} {rt : Option FieldType} {d pc ix : Nat} {L : List (Nat × Value)} {st : List Value} {M : Mem} {Rt : xGt → Array Value → State → Outcome → State → Prop} {Q : Int32 → Mem → Prop} {l0 : Nat} {l1 : Int32} {l2 : Int32} (hd : decode cc pc = .ok (.invokevirtual ix, 3)) (q : Nat) (hq : pc + 3 = q) (hk_l0 : SHk l0 = 12) (w1 : Cond.methodLink own ix yX12_heardAs ∈ xTs) (hr : 6 < d) (hst : (st.map fun v => v.category).sum ≤ 8) (h : FX12_heardAs Q l0 l1 l2 M) (k : ∀ (r : Int32) (N : Mem), Q r N → xX own cc nL rt d q L (.int r :: st) N Rt) : xX own cc nL rt d pc L (.int l2 :: .int l1 :: .ref l0 :: st) M Rt :=
  x_callV_i (n := 2) (As := [.int l1, .int l2]) hd q hq hk_l0 (by decide) rfl rfl w1 kw7_140 ks7_3 kw1_14 kw7_141 (by decide +kernel) rfl hr (by decide) hst _ rfl (cX12_heardAs_ hk_l0 h) k
def lbX12_adviceGoes_17 (Q : Mem → Prop) (l0 : Nat) (B17 : Int32 → Mem → Prop) (l1 : Int32) (M : Mem) : Prop :=
  (((M l0 6) ≤ (l1 + 1) → Q M) ∧ (¬ (M l0 6) ≤ (l1 + 1) → vp_in ((83 + l1) + 1) 107 ∧ ((¬ (M (l0 + 1) (ix ((83 + l1) + 1))) = 0 → vp_in ((83 + l1) + 1) 107 ∧ FX12_heardAs (fun (r2 : Int32) (M1 : Mem) => vp_in (83 + l1) 107 ∧ ∀ M3 : Mem, M3 = xu M1 (l0 + 1) (ix (83 + l1)) (r2 + 100) → vp_in ((83 + l1) + 1) 107 ∧ ∀ M4 : Mem, M4 = xu M3 (l0 + 1) (ix ((83 + l1) + 1)) 0 → FX12_notes (fun (M5 : Mem) => B17 (l1 + 1) M5) l0 4 l1 r2 M4) l0 ((M (l0 + 1) (ix ((83 + l1) + 1))) - 100) l1 M) ∧ ((M (l0 + 1) (ix ((83 + l1) + 1))) = 0 → B17 (l1 + 1) M))))
def NX12_adviceGoes_17 (Q : Mem → Prop) (l0 : Nat) (l1 : Int32) (M : Mem) : Prop := xlp (fun (B : Int32 × Mem → Prop) a => lbX12_adviceGoes_17 Q l0 (fun l1 M => B (l1, M)) a.1 a.2) (l1, M)
theorem nX12_adviceGoes_17 {Q : Mem → Prop} {l0 : Nat} {l1 : Int32} {M : Mem} (hk_l0 : SHk l0 = 12) (h : NX12_adviceGoes_17 Q l0 l1 M) : xX RX12 cX12_adviceGoes 3 none 7 17 [(0, .ref l0), (1, .int l1)] [] M (xQv Q) := by
  obtain ⟨n, h⟩ := h
  have hB17 : ∀ (n : Nat) (l1 : Int32) (M : Mem), xlpn (fun (B : Int32 × Mem → Prop) a => lbX12_adviceGoes_17 Q l0 (fun l1 M => B (l1, M)) a.1 a.2) n (l1, M) → xX RX12 cX12_adviceGoes 3 none 7 17 [(0, .ref l0), (1, .int l1)] [] M (xQv Q) := by
    intro n
    induction n with
    | zero => intro l1 M h; exact False.elim h
    | succ n ih =>
      intro l1 M h
      have hB17 := ih
      have h : lbX12_adviceGoes_17 Q l0 (fun l1 M => xlpn (fun (B : Int32 × Mem → Prop) a => lbX12_adviceGoes_17 Q l0 (fun l1 M => B (l1, M)) a.1 a.2) n (l1, M)) l1 M := h
      unfold lbX12_adviceGoes_17 at h
      refine x_iload_n dX12_adviceGoes_17 rfl 18 rfl ?_
      refine x_iconst dX12_adviceGoes_18 kc_1 19 rfl ?_
      refine x_iadd dX12_adviceGoes_19 20 rfl ?_
      refine x_aload_n dX12_adviceGoes_20 rfl 21 rfl ?_
      refine gf12_6 dX12_adviceGoes_21 24 rfl hk_l0 kw5_165 ?_
      refine x_icmp_ge dX12_adviceGoes_24 102 27 rfl rfl (fun hc => ?_) (fun hc => ?_)
      · have h := h.1 hc
        exact x_vret dX12_adviceGoes_102 h
      · have h := h.2 hc
        refine x_aload_n dX12_adviceGoes_27 rfl 28 rfl ?_
        refine gf12_1 dX12_adviceGoes_28 31 rfl hk_l0 kw5_160 ?_
        refine x_bipush dX12_adviceGoes_31 kb_83 33 rfl ?_
        refine x_iload_n dX12_adviceGoes_33 rfl 34 rfl ?_
        refine x_iadd dX12_adviceGoes_34 35 rfl ?_
        refine x_iconst dX12_adviceGoes_35 kc_1 36 rfl ?_
        refine x_iadd dX12_adviceGoes_36 37 rfl ?_
        obtain ⟨hin, h⟩ := h
        refine x_iaload dX12_adviceGoes_37 (ly12_1 hk_l0) hin 38 rfl ?_
        refine x_if_ne dX12_adviceGoes_38 44 41 rfl rfl (fun hc => ?_) (fun hc => ?_)
        · have h := h.1 hc
          refine x_aload_n dX12_adviceGoes_44 rfl 45 rfl ?_
          refine x_aload_n dX12_adviceGoes_45 rfl 46 rfl ?_
          refine gf12_1 dX12_adviceGoes_46 49 rfl hk_l0 kw5_160 ?_
          refine x_bipush dX12_adviceGoes_49 kb_83 51 rfl ?_
          refine x_iload_n dX12_adviceGoes_51 rfl 52 rfl ?_
          refine x_iadd dX12_adviceGoes_52 53 rfl ?_
          refine x_iconst dX12_adviceGoes_53 kc_1 54 rfl ?_
          refine x_iadd dX12_adviceGoes_54 55 rfl ?_
          obtain ⟨hin, h⟩ := h
          refine x_iaload dX12_adviceGoes_55 (ly12_1 hk_l0) hin 56 rfl ?_
          refine x_bipush dX12_adviceGoes_56 kb_100 58 rfl ?_
          refine x_isub dX12_adviceGoes_58 59 rfl ?_
          refine x_iload_n dX12_adviceGoes_59 rfl 60 rfl ?_
          refine kX12_heardAs dX12_adviceGoes_60 63 rfl hk_l0 kw7_138 (Nat.le_of_ble_eq_true rfl) (Nat.le_of_ble_eq_true rfl) h (fun r2 M1 h => ?_)
          refine x_istore_n dX12_adviceGoes_63 (Nat.le_of_ble_eq_true rfl) [(0, .ref l0), (1, .int l1), (2, .int r2)] rfl 64 rfl ?_
          refine x_aload_n dX12_adviceGoes_64 rfl 65 rfl ?_
          refine gf12_1 dX12_adviceGoes_65 68 rfl hk_l0 kw5_160 ?_
          refine x_bipush dX12_adviceGoes_68 kb_83 70 rfl ?_
          refine x_iload_n dX12_adviceGoes_70 rfl 71 rfl ?_
          refine x_iadd dX12_adviceGoes_71 72 rfl ?_
          refine x_iload_n dX12_adviceGoes_72 rfl 73 rfl ?_
          refine x_bipush dX12_adviceGoes_73 kb_100 75 rfl ?_
          refine x_iadd dX12_adviceGoes_75 76 rfl ?_
          obtain ⟨hin, h⟩ := h
          refine x_iastore dX12_adviceGoes_76 (ly12_1 hk_l0) hin 77 rfl (x_mem (fun M3 hM3 => ?_))
          have h := h M3 hM3
          refine x_aload_n dX12_adviceGoes_77 rfl 78 rfl ?_
          refine gf12_1 dX12_adviceGoes_78 81 rfl hk_l0 kw5_160 ?_
          refine x_bipush dX12_adviceGoes_81 kb_83 83 rfl ?_
          refine x_iload_n dX12_adviceGoes_83 rfl 84 rfl ?_
          refine x_iadd dX12_adviceGoes_84 85 rfl ?_
          refine x_iconst dX12_adviceGoes_85 kc_1 86 rfl ?_
          refine x_iadd dX12_adviceGoes_86 87 rfl ?_
          refine x_iconst dX12_adviceGoes_87 kc_0 88 rfl ?_
          obtain ⟨hin, h⟩ := h
          refine x_iastore dX12_adviceGoes_88 (ly12_1 hk_l0) hin 89 rfl (x_mem (fun M4 hM4 => ?_))
          have h := h M4 hM4
          refine x_aload_n dX12_adviceGoes_89 rfl 90 rfl ?_
          refine x_iconst dX12_adviceGoes_90 kc_4 91 rfl ?_
          refine x_iload_n dX12_adviceGoes_91 rfl 92 rfl ?_
          refine x_iload_n dX12_adviceGoes_92 rfl 93 rfl ?_
          refine kX12_notes dX12_adviceGoes_93 96 rfl hk_l0 kw6_102 (Nat.le_of_ble_eq_true rfl) (Nat.le_of_ble_eq_true rfl) h (fun M5 h => ?_)
          refine x_iinc dX12_adviceGoes_96 rfl (congrArg (l1 + ·) kc_1) (Nat.le_of_ble_eq_true rfl) [(0, .ref l0), (1, .int (l1 + 1)), (2, .int r2)] rfl 99 rfl ?_
          refine x_goto dX12_adviceGoes_99 17 rfl ?_
          refine x_weak [(0, .ref l0), (1, .int (l1 + 1))] [0, 1] rfl ?_
          exact hB17 _ _ h
        · have h := h.2 hc
          refine x_goto dX12_adviceGoes_41 96 rfl ?_
          refine x_iinc dX12_adviceGoes_96 rfl (congrArg (l1 + ·) kc_1) (Nat.le_of_ble_eq_true rfl) [(0, .ref l0), (1, .int (l1 + 1))] rfl 99 rfl ?_
          refine x_goto dX12_adviceGoes_99 17 rfl ?_
          exact hB17 _ _ h
  exact hB17 n l1 M h
def FX12_adviceGoes (Q : Mem → Prop) (l0 : Nat) (M : Mem) : Prop :=
  (((M l0 6) ≤ 0 → NX12_adviceGoes_17 Q l0 0 M) ∧ (¬ (M l0 6) ≤ 0 → ∀ M6 : Mem, M6 = xu M (l0 + 1) (83) 0 → NX12_adviceGoes_17 Q l0 0 M6))
theorem eX12_adviceGoes {Q : Mem → Prop} {l0 : Nat} {M : Mem} (hk_l0 : SHk l0 = 12) (h : FX12_adviceGoes Q l0 M) : xX RX12 cX12_adviceGoes 3 none 7 0 [(0, .ref l0)] [] M (xQv Q) := by
  unfold FX12_adviceGoes at h
  refine x_aload_n dX12_adviceGoes_0 rfl 1 rfl ?_
  refine gf12_6 dX12_adviceGoes_1 4 rfl hk_l0 kw5_165 ?_
  refine x_if_le dX12_adviceGoes_4 15 7 rfl rfl (fun hc => ?_) (fun hc => ?_)
  · have h := h.1 hc
    refine x_iconst dX12_adviceGoes_15 kc_0 16 rfl ?_
    refine x_istore_n dX12_adviceGoes_16 (Nat.le_of_ble_eq_true rfl) [(0, .ref l0), (1, .int 0)] rfl 17 rfl ?_
    exact nX12_adviceGoes_17 hk_l0 h
  · have h := h.2 hc
    refine x_aload_n dX12_adviceGoes_7 rfl 8 rfl ?_
    refine gf12_1 dX12_adviceGoes_8 11 rfl hk_l0 kw5_160 ?_
    refine x_bipush dX12_adviceGoes_11 kb_83 13 rfl ?_
    refine x_iconst dX12_adviceGoes_13 kc_0 14 rfl ?_
    refine x_iastore dX12_adviceGoes_14 (ly12_1 hk_l0) (by unfold vp_in; decide) 15 rfl (x_mem (fun M6 hM6 => ?_))
    have h := h M6 hM6
    refine x_iconst dX12_adviceGoes_15 kc_0 16 rfl ?_
    refine x_istore_n dX12_adviceGoes_16 (Nat.le_of_ble_eq_true rfl) [(0, .ref l0), (1, .int 0)] rfl 17 rfl ?_
    exact nX12_adviceGoes_17 hk_l0 h
theorem cX12_adviceGoes_ {Q : Mem → Prop} {l0 : Nat} {M : Mem} (hk_l0 : SHk l0 = 12) (h : FX12_adviceGoes Q l0 M) : xM yX12_adviceGoes cX12_adviceGoes 3 none 7 [.ref l0] M (xQv Q) := xM_of (by decide +kernel) (Nat.le_of_ble_eq_true rfl) (eX12_adviceGoes hk_l0 h)
theorem kX12_adviceGoes {own : String} {cc : ByteArray} {nL : Nat} {rt : Option FieldType} {d pc ix : Nat} {L : List (Nat × Value)} {st : List Value} {M : Mem} {Rt : xGt → Array Value → State → Outcome → State → Prop} {Q : Mem → Prop} {l0 : Nat} (hd : decode cc pc = .ok (.invokevirtual ix, 3)) (q : Nat) (hq : pc + 3 = q) (hk_l0 : SHk l0 = 12) (w1 : Cond.methodLink own ix yX12_adviceGoes ∈ xTs) (hr : 7 < d) (hst : (st.map fun v => v.category).sum ≤ 8) (h : FX12_adviceGoes Q l0 M) (k : ∀ (N : Mem), Q N → xX own cc nL rt d q L st N Rt) : xX own cc nL rt d pc L (.ref l0 :: st) M Rt :=
  x_callV_v (n := 0) (As := []) hd q hq hk_l0 (by decide) rfl rfl w1 kw7_136 ks7_2 kw1_14 kw7_137 (by decide +kernel) rfl hr (by decide) hst _ rfl (cX12_adviceGoes_ hk_l0 h) k
def FX12_isEnding (Q : Bool → Mem → Prop) (l0 : Nat) (l1 : Int32) (M : Mem) : Prop :=
  FX12_diesOf (fun (r2 : Int32) (M1 : Mem) => (((M1 l0 5) = 0 → ((r2 ≤ 0 → Q false M1) ∧ (¬ r2 ≤ 0 → FX12_draw (fun (r4 : Int32) (M3 : Mem) => ((r2 ≤ r4 → Q false M3) ∧ (¬ r2 ≤ r4 → Q true M3))) l0 1000 M1))) ∧ (¬ (M1 l0 5) = 0 → (((2 * r2) < 1000 → Q false M1) ∧ (¬ (2 * r2) < 1000 → Q true M1))))) l0 l1 M
theorem eX12_isEnding {Q : Bool → Mem → Prop} {l0 : Nat} {l1 : Int32} {M : Mem} (hk_l0 : SHk l0 = 12) (h : FX12_isEnding Q l0 l1 M) : xX RX12 cX12_isEnding 3 (some .boolean) 6 0 [(0, .ref l0), (1, .int l1)] [] M (xQb Q) := by
  unfold FX12_isEnding at h
  refine x_aload_n dX12_isEnding_0 rfl 1 rfl ?_
  refine x_iload_n dX12_isEnding_1 rfl 2 rfl ?_
  refine kX12_diesOf dX12_isEnding_2 5 rfl hk_l0 kw7_154 (Nat.le_of_ble_eq_true rfl) (Nat.le_of_ble_eq_true rfl) h (fun r2 M1 h => ?_)
  refine x_istore_n dX12_isEnding_5 (Nat.le_of_ble_eq_true rfl) [(0, .ref l0), (1, .int l1), (2, .int r2)] rfl 6 rfl ?_
  refine x_aload_n dX12_isEnding_6 rfl 7 rfl ?_
  refine gf12_5 dX12_isEnding_7 10 rfl hk_l0 kw5_164 ?_
  refine x_if_eq dX12_isEnding_10 28 13 rfl rfl (fun hc => ?_) (fun hc => ?_)
  · have h := h.1 hc
    refine x_iload_n dX12_isEnding_28 rfl 29 rfl ?_
    refine x_if_le dX12_isEnding_29 47 32 rfl rfl (fun hc => ?_) (fun hc => ?_)
    · have h := h.1 hc
      refine x_iconst dX12_isEnding_47 kc_0 48 rfl ?_
      exact x_zret (z := false) dX12_isEnding_48 h
    · have h := h.2 hc
      refine x_aload_n dX12_isEnding_32 rfl 33 rfl ?_
      refine x_sipush dX12_isEnding_33 kh_1000 36 rfl ?_
      refine kX12_draw dX12_isEnding_36 39 rfl hk_l0 kw7_158 (Nat.le_of_ble_eq_true rfl) (Nat.le_of_ble_eq_true rfl) h (fun r4 M3 h => ?_)
      refine x_iload_n dX12_isEnding_39 rfl 40 rfl ?_
      refine x_icmp_ge dX12_isEnding_40 47 43 rfl rfl (fun hc => ?_) (fun hc => ?_)
      · have h := h.1 hc
        refine x_iconst dX12_isEnding_47 kc_0 48 rfl ?_
        exact x_zret (z := false) dX12_isEnding_48 h
      · have h := h.2 hc
        refine x_iconst dX12_isEnding_43 kc_1 44 rfl ?_
        refine x_goto dX12_isEnding_44 48 rfl ?_
        exact x_zret (z := true) dX12_isEnding_48 h
  · have h := h.2 hc
    refine x_iconst dX12_isEnding_13 kc_2 14 rfl ?_
    refine x_iload_n dX12_isEnding_14 rfl 15 rfl ?_
    refine x_imul dX12_isEnding_15 16 rfl ?_
    refine x_sipush dX12_isEnding_16 kh_1000 19 rfl ?_
    refine x_icmp_lt dX12_isEnding_19 26 22 rfl rfl (fun hc => ?_) (fun hc => ?_)
    · have h := h.1 hc
      refine x_iconst dX12_isEnding_26 kc_0 27 rfl ?_
      exact x_zret (z := false) dX12_isEnding_27 h
    · have h := h.2 hc
      refine x_iconst dX12_isEnding_22 kc_1 23 rfl ?_
      refine x_goto dX12_isEnding_23 27 rfl ?_
      exact x_zret (z := true) dX12_isEnding_27 h
theorem cX12_isEnding_ {Q : Bool → Mem → Prop} {l0 : Nat} {l1 : Int32} {M : Mem} (hk_l0 : SHk l0 = 12) (h : FX12_isEnding Q l0 l1 M) : xM yX12_isEnding cX12_isEnding 3 (some .boolean) 6 [.ref l0, .int l1] M (xQb Q) := xM_of (by decide +kernel) (Nat.le_of_ble_eq_true rfl) (eX12_isEnding hk_l0 h)
theorem kX12_isEnding {own : String} {cc : ByteArray} {nL : Nat} {rt : Option FieldType} {d pc ix : Nat} {L : List (Nat × Value)} {st : List Value} {M : Mem} {Rt : xGt → Array Value → State → Outcome → State → Prop} {Q : Bool → Mem → Prop} {l0 : Nat} {l1 : Int32} (hd : decode cc pc = .ok (.invokevirtual ix, 3)) (q : Nat) (hq : pc + 3 = q) (hk_l0 : SHk l0 = 12) (w1 : Cond.methodLink own ix yX12_isEnding ∈ xTs) (hr : 6 < d) (hst : (st.map fun v => v.category).sum ≤ 8) (h : FX12_isEnding Q l0 l1 M) (k : ∀ (r : Bool) (N : Mem), Q r N → xX own cc nL rt d q L (.int (bI r) :: st) N Rt) : xX own cc nL rt d pc L (.int l1 :: .ref l0 :: st) M Rt :=
  x_callV_b (n := 1) (As := [.int l1]) hd q hq hk_l0 (by decide) rfl rfl w1 kw7_152 ks7_6 kw1_14 kw7_153 (by decide +kernel) rfl hr (by decide) hst _ rfl (cX12_isEnding_ hk_l0 h) k
def NX12_dies_43 (Q : Mem → Prop) (l0 : Nat) (l1 : Int32) (M : Mem) : Prop :=
  vp_in (7 + l1) 107 ∧ FX12_notes (fun (M1 : Mem) => Q M1) l0 1 l1 (M (l0 + 1) (ix (7 + l1))) M
theorem nX12_dies_43 {Q : Mem → Prop} {l0 : Nat} {l1 : Int32} {M : Mem} (hk_l0 : SHk l0 = 12) (h : NX12_dies_43 Q l0 l1 M) : xX RX12 cX12_dies 3 none 3 43 [(0, .ref l0), (1, .int l1)] [] M (xQv Q) := by
  unfold NX12_dies_43 at h
  refine x_aload_n dX12_dies_43 rfl 44 rfl ?_
  refine x_iconst dX12_dies_44 kc_1 45 rfl ?_
  refine x_iload_n dX12_dies_45 rfl 46 rfl ?_
  refine x_aload_n dX12_dies_46 rfl 47 rfl ?_
  refine gf12_1 dX12_dies_47 50 rfl hk_l0 kw5_160 ?_
  refine x_bipush dX12_dies_50 kb_7 52 rfl ?_
  refine x_iload_n dX12_dies_52 rfl 53 rfl ?_
  refine x_iadd dX12_dies_53 54 rfl ?_
  obtain ⟨hin, h⟩ := h
  refine x_iaload dX12_dies_54 (ly12_1 hk_l0) hin 55 rfl ?_
  refine kX12_notes dX12_dies_55 58 rfl hk_l0 kw6_102 (Nat.le_of_ble_eq_true rfl) (Nat.le_of_ble_eq_true rfl) h (fun M1 h => ?_)
  exact x_vret dX12_dies_58 h
def FX12_dies (Q : Mem → Prop) (l0 : Nat) (l1 : Int32) (M : Mem) : Prop :=
  vp_in (49 + l1) 107 ∧ ∀ M2 : Mem, M2 = xu M (l0 + 1) (ix (49 + l1)) 1 → FX12_pillarOf (fun (r3 : Int32) => ((r3 = (-1) → FX12_placeOf (fun (r4 : Int32) => FX12_leavesGround (fun (M5 : Mem) => NX12_dies_43 Q l0 l1 M5) l0 r4 M2) l0 l1 M2) ∧ (¬ r3 = (-1) → vp_in (73 + r3) 107 ∧ ∀ M6 : Mem, M6 = xu M2 (l0 + 1) (ix (73 + r3)) 0 → NX12_dies_43 Q l0 l1 M6))) l0 l1 M2
theorem eX12_dies {Q : Mem → Prop} {l0 : Nat} {l1 : Int32} {M : Mem} (hk_l0 : SHk l0 = 12) (h : FX12_dies Q l0 l1 M) : xX RX12 cX12_dies 3 none 3 0 [(0, .ref l0), (1, .int l1)] [] M (xQv Q) := by
  unfold FX12_dies at h
  refine x_aload_n dX12_dies_0 rfl 1 rfl ?_
  refine gf12_1 dX12_dies_1 4 rfl hk_l0 kw5_160 ?_
  refine x_bipush dX12_dies_4 kb_49 6 rfl ?_
  refine x_iload_n dX12_dies_6 rfl 7 rfl ?_
  refine x_iadd dX12_dies_7 8 rfl ?_
  refine x_iconst dX12_dies_8 kc_1 9 rfl ?_
  obtain ⟨hin, h⟩ := h
  refine x_iastore dX12_dies_9 (ly12_1 hk_l0) hin 10 rfl (x_mem (fun M2 hM2 => ?_))
  have h := h M2 hM2
  refine x_aload_n dX12_dies_10 rfl 11 rfl ?_
  refine x_iload_n dX12_dies_11 rfl 12 rfl ?_
  refine kX12_pillarOf dX12_dies_12 15 rfl hk_l0 kw7_46 (Nat.le_of_ble_eq_true rfl) (Nat.le_of_ble_eq_true rfl) h (fun r3 h => ?_)
  refine x_istore_n dX12_dies_15 (Nat.le_of_ble_eq_true rfl) [(0, .ref l0), (1, .int l1), (2, .int r3)] rfl 16 rfl ?_
  refine x_iload_n dX12_dies_16 rfl 17 rfl ?_
  refine x_iconst dX12_dies_17 kc_m1 18 rfl ?_
  refine x_icmp_eq dX12_dies_18 34 21 rfl rfl (fun hc => ?_) (fun hc => ?_)
  · have h := h.1 hc
    refine x_aload_n dX12_dies_34 rfl 35 rfl ?_
    refine x_aload_n dX12_dies_35 rfl 36 rfl ?_
    refine x_iload_n dX12_dies_36 rfl 37 rfl ?_
    refine kX12_placeOf dX12_dies_37 40 rfl hk_l0 kw7_168 (Nat.le_of_ble_eq_true rfl) (Nat.le_of_ble_eq_true rfl) h (fun r4 h => ?_)
    refine kX12_leavesGround dX12_dies_40 43 rfl hk_l0 kw6_98 (Nat.le_of_ble_eq_true rfl) (Nat.le_of_ble_eq_true rfl) h (fun M5 h => ?_)
    refine x_weak [(0, .ref l0), (1, .int l1)] [0, 1] rfl ?_
    exact nX12_dies_43 hk_l0 h
  · have h := h.2 hc
    refine x_aload_n dX12_dies_21 rfl 22 rfl ?_
    refine gf12_1 dX12_dies_22 25 rfl hk_l0 kw5_160 ?_
    refine x_bipush dX12_dies_25 kb_73 27 rfl ?_
    refine x_iload_n dX12_dies_27 rfl 28 rfl ?_
    refine x_iadd dX12_dies_28 29 rfl ?_
    refine x_iconst dX12_dies_29 kc_0 30 rfl ?_
    obtain ⟨hin, h⟩ := h
    refine x_iastore dX12_dies_30 (ly12_1 hk_l0) hin 31 rfl (x_mem (fun M6 hM6 => ?_))
    have h := h M6 hM6
    refine x_goto dX12_dies_31 43 rfl ?_
    refine x_weak [(0, .ref l0), (1, .int l1)] [0, 1] rfl ?_
    exact nX12_dies_43 hk_l0 h
theorem cX12_dies_ {Q : Mem → Prop} {l0 : Nat} {l1 : Int32} {M : Mem} (hk_l0 : SHk l0 = 12) (h : FX12_dies Q l0 l1 M) : xM yX12_dies cX12_dies 3 none 3 [.ref l0, .int l1] M (xQv Q) := xM_of (by decide +kernel) (Nat.le_of_ble_eq_true rfl) (eX12_dies hk_l0 h)
theorem kX12_dies {own : String} {cc : ByteArray} {nL : Nat} {rt : Option FieldType} {d pc ix : Nat} {L : List (Nat × Value)} {st : List Value} {M : Mem} {Rt : xGt → Array Value → State → Outcome → State → Prop} {Q : Mem → Prop} {l0 : Nat} {l1 : Int32} (hd : decode cc pc = .ok (.invokevirtual ix, 3)) (q : Nat) (hq : pc + 3 = q) (hk_l0 : SHk l0 = 12) (w1 : Cond.methodLink own ix yX12_dies ∈ xTs) (hr : 3 < d) (hst : (st.map fun v => v.category).sum ≤ 8) (h : FX12_dies Q l0 l1 M) (k : ∀ (N : Mem), Q N → xX own cc nL rt d q L st N Rt) : xX own cc nL rt d pc L (.int l1 :: .ref l0 :: st) M Rt :=
  x_callV_v (n := 1) (As := [.int l1]) hd q hq hk_l0 (by decide) rfl rfl w1 kw7_166 ks7_9 kw1_14 kw7_167 (by decide +kernel) rfl hr (by decide) hst _ rfl (cX12_dies_ hk_l0 h) k
def lbX12_skyOf_4 (Q : Int32 → Prop) (l0 : Nat) (l1 : Int32) (M : Mem) (B4 : Int32 → Int32 → Prop) (l2 : Int32) (l3 : Int32) : Prop :=
  (((M l0 33) ≤ l3 → Q l2) ∧ (¬ (M l0 33) ≤ l3 → vp_in (2 * l3) 64 ∧ ((¬ (M (l0 + 16) (ix (2 * l3))) = l1 → B4 l2 (l3 + 1)) ∧ ((M (l0 + 16) (ix (2 * l3))) = l1 → vp_in ((2 * l3) + 1) 64 ∧ ∀ y1 : Int32, y1 = M (l0 + 16) (ix ((2 * l3) + 1)) → B4 y1 (l3 + 1)))))
def NX12_skyOf_4 (Q : Int32 → Prop) (l0 : Nat) (l1 : Int32) (l2 : Int32) (l3 : Int32) (M : Mem) : Prop := xlp (fun (B : Int32 × Int32 → Prop) a => lbX12_skyOf_4 Q l0 l1 M (fun l2 l3 => B (l2, l3)) a.1 a.2) (l2, l3)
theorem nX12_skyOf_4 {Q : Int32 → Prop} {l0 : Nat} {l1 : Int32} {l2 : Int32} {l3 : Int32} {M : Mem} (hk_l0 : SHk l0 = 12) (h : NX12_skyOf_4 Q l0 l1 l2 l3 M) : xX RX12 cX12_skyOf 4 (some .int) 1 4 [(0, .ref l0), (1, .int l1), (2, .int l2), (3, .int l3)] [] M (xQi (xP M Q)) := by
  obtain ⟨n, h⟩ := h
  have hB4 : ∀ (n : Nat) (l2 : Int32) (l3 : Int32), xlpn (fun (B : Int32 × Int32 → Prop) a => lbX12_skyOf_4 Q l0 l1 M (fun l2 l3 => B (l2, l3)) a.1 a.2) n (l2, l3) → xX RX12 cX12_skyOf 4 (some .int) 1 4 [(0, .ref l0), (1, .int l1), (2, .int l2), (3, .int l3)] [] M (xQi (xP M Q)) := by
    intro n
    induction n with
    | zero => intro l2 l3 h; exact False.elim h
    | succ n ih =>
      intro l2 l3 h
      have hB4 := ih
      have h : lbX12_skyOf_4 Q l0 l1 M (fun l2 l3 => xlpn (fun (B : Int32 × Int32 → Prop) a => lbX12_skyOf_4 Q l0 l1 M (fun l2 l3 => B (l2, l3)) a.1 a.2) n (l2, l3)) l2 l3 := h
      unfold lbX12_skyOf_4 at h
      refine x_iload_n dX12_skyOf_4 rfl 5 rfl ?_
      refine x_aload_n dX12_skyOf_5 rfl 6 rfl ?_
      refine gf12_33 dX12_skyOf_6 9 rfl hk_l0 kw5_192 ?_
      refine x_icmp_ge dX12_skyOf_9 41 12 rfl rfl (fun hc => ?_) (fun hc => ?_)
      · have h := h.1 hc
        refine x_iload_n dX12_skyOf_41 rfl 42 rfl ?_
        exact x_iret dX12_skyOf_42 ⟨rfl, h⟩
      · have h := h.2 hc
        refine x_aload_n dX12_skyOf_12 rfl 13 rfl ?_
        refine gf12_34 dX12_skyOf_13 16 rfl hk_l0 kw5_193 ?_
        refine x_iconst dX12_skyOf_16 kc_2 17 rfl ?_
        refine x_iload_n dX12_skyOf_17 rfl 18 rfl ?_
        refine x_imul dX12_skyOf_18 19 rfl ?_
        obtain ⟨hin, h⟩ := h
        refine x_iaload dX12_skyOf_19 (ly12_34 hk_l0) hin 20 rfl ?_
        refine x_iload_n dX12_skyOf_20 rfl 21 rfl ?_
        refine x_icmp_ne dX12_skyOf_21 35 24 rfl rfl (fun hc => ?_) (fun hc => ?_)
        · have h := h.1 hc
          refine x_iinc dX12_skyOf_35 rfl (congrArg (l3 + ·) kc_1) (Nat.le_of_ble_eq_true rfl) [(0, .ref l0), (1, .int l1), (2, .int l2), (3, .int (l3 + 1))] rfl 38 rfl ?_
          refine x_goto dX12_skyOf_38 4 rfl ?_
          exact hB4 _ _ h
        · have h := h.2 hc
          refine x_aload_n dX12_skyOf_24 rfl 25 rfl ?_
          refine gf12_34 dX12_skyOf_25 28 rfl hk_l0 kw5_193 ?_
          refine x_iconst dX12_skyOf_28 kc_2 29 rfl ?_
          refine x_iload_n dX12_skyOf_29 rfl 30 rfl ?_
          refine x_imul dX12_skyOf_30 31 rfl ?_
          refine x_iconst dX12_skyOf_31 kc_1 32 rfl ?_
          refine x_iadd dX12_skyOf_32 33 rfl ?_
          obtain ⟨hin, h⟩ := h
          refine x_iaload dX12_skyOf_33 (ly12_34 hk_l0) hin 34 rfl ?_
          refine x_top (fun y1 hy1 => ?_)
          have h := h y1 hy1
          refine x_istore_n dX12_skyOf_34 (Nat.le_of_ble_eq_true rfl) [(0, .ref l0), (1, .int l1), (2, .int y1), (3, .int l3)] rfl 35 rfl ?_
          refine x_iinc dX12_skyOf_35 rfl (congrArg (l3 + ·) kc_1) (Nat.le_of_ble_eq_true rfl) [(0, .ref l0), (1, .int l1), (2, .int y1), (3, .int (l3 + 1))] rfl 38 rfl ?_
          refine x_goto dX12_skyOf_38 4 rfl ?_
          exact hB4 _ _ h
  exact hB4 n l2 l3 h
def FX12_skyOf (Q : Int32 → Prop) (l0 : Nat) (l1 : Int32) (M : Mem) : Prop :=
  NX12_skyOf_4 Q l0 l1 (-1) 0 M
theorem eX12_skyOf {Q : Int32 → Prop} {l0 : Nat} {l1 : Int32} {M : Mem} (hk_l0 : SHk l0 = 12) (h : FX12_skyOf Q l0 l1 M) : xX RX12 cX12_skyOf 4 (some .int) 1 0 [(0, .ref l0), (1, .int l1)] [] M (xQi (xP M Q)) := by
  unfold FX12_skyOf at h
  refine x_iconst dX12_skyOf_0 kc_m1 1 rfl ?_
  refine x_istore_n dX12_skyOf_1 (Nat.le_of_ble_eq_true rfl) [(0, .ref l0), (1, .int l1), (2, .int (-1))] rfl 2 rfl ?_
  refine x_iconst dX12_skyOf_2 kc_0 3 rfl ?_
  refine x_istore_n dX12_skyOf_3 (Nat.le_of_ble_eq_true rfl) [(0, .ref l0), (1, .int l1), (2, .int (-1)), (3, .int 0)] rfl 4 rfl ?_
  exact nX12_skyOf_4 hk_l0 h
theorem cX12_skyOf_ {Q : Int32 → Prop} {l0 : Nat} {l1 : Int32} {M : Mem} (hk_l0 : SHk l0 = 12) (h : FX12_skyOf Q l0 l1 M) : xM yX12_skyOf cX12_skyOf 4 (some .int) 1 [.ref l0, .int l1] M (xQi (xP M Q)) := xM_of (by decide +kernel) (Nat.le_of_ble_eq_true rfl) (eX12_skyOf hk_l0 h)
theorem kX12_skyOf {own : String} {cc : ByteArray} {nL : Nat} {rt : Option FieldType} {d pc ix : Nat} {L : List (Nat × Value)} {st : List Value} {M : Mem} {Rt : xGt → Array Value → State → Outcome → State → Prop} {Q : Int32 → Prop} {l0 : Nat} {l1 : Int32} (hd : decode cc pc = .ok (.invokevirtual ix, 3)) (q : Nat) (hq : pc + 3 = q) (hk_l0 : SHk l0 = 12) (w1 : Cond.methodLink own ix yX12_skyOf ∈ xTs) (hr : 1 < d) (hst : (st.map fun v => v.category).sum ≤ 8) (h : FX12_skyOf Q l0 l1 M) (k : ∀ (r : Int32), Q r → xX own cc nL rt d q L (.int r :: st) M Rt) : xX own cc nL rt d pc L (.int l1 :: .ref l0 :: st) M Rt :=
  x_callV_i (n := 1) (As := [.int l1]) hd q hq hk_l0 (by decide) rfl rfl w1 kw7_84 ks6_5 kw1_14 kw7_85 (by decide +kernel) rfl hr (by decide) hst _ rfl (cX12_skyOf_ hk_l0 h) (fun r N hN => by obtain ⟨rfl, hN⟩ := hN; exact k r hN)
def lbX12_goesBy_141 (Q : Int32 → Mem → Prop) (l0 : Nat) (B141 : Int32 → Int32 → Mem → Prop) (l1 : Int32) (l2 : Int32) (M : Mem) : Prop :=
  (((M l0 7) ≤ l2 → FX12_allClimb (fun (M1 : Mem) => ∀ M2 : Mem, M2 = xu M1 (l0 + 1) (0) ((M1 (l0 + 1) 0) + 1) → Q l1 M2) l0 M) ∧ (¬ (M l0 7) ≤ l2 → vp_in (49 + l2) 107 ∧ ((¬ (M (l0 + 1) (ix (49 + l2))) = 1 → vp_in (7 + l2) 107 ∧ FX12_lesser (fun (r3 : Int32) => vp_in (7 + l2) 107 ∧ ∀ M4 : Mem, M4 = xu M (l0 + 1) (ix (7 + l2)) r3 → FX12_isEnding (fun (r6 : Bool) (M5 : Mem) => ((r6 = true → FX12_dies (fun (M7 : Mem) => B141 (l1 + 1) (l2 + 1) M7) l0 l2 M5) ∧ (r6 = false → B141 l1 (l2 + 1) M5))) l0 l2 M4) l0 120 ((M (l0 + 1) (ix (7 + l2))) + 1) M) ∧ ((M (l0 + 1) (ix (49 + l2))) = 1 → B141 l1 (l2 + 1) M))))
def NX12_goesBy_141 (Q : Int32 → Mem → Prop) (l0 : Nat) (l1 : Int32) (l2 : Int32) (M : Mem) : Prop := xlp (fun (B : Int32 × Int32 × Mem → Prop) a => lbX12_goesBy_141 Q l0 (fun l1 l2 M => B (l1, l2, M)) a.1 a.2.1 a.2.2) (l1, l2, M)
theorem nX12_goesBy_141 {Q : Int32 → Mem → Prop} {l0 : Nat} {l1 : Int32} {l2 : Int32} {M : Mem} (hk_l0 : SHk l0 = 12) (h : NX12_goesBy_141 Q l0 l1 l2 M) : xX RX12 cX12_goesBy 3 (some .int) 8 141 [(0, .ref l0), (1, .int l1), (2, .int l2)] [] M (xQi Q) := by
  obtain ⟨n, h⟩ := h
  have hB141 : ∀ (n : Nat) (l1 : Int32) (l2 : Int32) (M : Mem), xlpn (fun (B : Int32 × Int32 × Mem → Prop) a => lbX12_goesBy_141 Q l0 (fun l1 l2 M => B (l1, l2, M)) a.1 a.2.1 a.2.2) n (l1, l2, M) → xX RX12 cX12_goesBy 3 (some .int) 8 141 [(0, .ref l0), (1, .int l1), (2, .int l2)] [] M (xQi Q) := by
    intro n
    induction n with
    | zero => intro l1 l2 M h; exact False.elim h
    | succ n ih =>
      intro l1 l2 M h
      have hB141 := ih
      have h : lbX12_goesBy_141 Q l0 (fun l1 l2 M => xlpn (fun (B : Int32 × Int32 × Mem → Prop) a => lbX12_goesBy_141 Q l0 (fun l1 l2 M => B (l1, l2, M)) a.1 a.2.1 a.2.2) n (l1, l2, M)) l1 l2 M := h
      unfold lbX12_goesBy_141 at h
      refine x_iload_n dX12_goesBy_141 rfl 142 rfl ?_
      refine x_aload_n dX12_goesBy_142 rfl 143 rfl ?_
      refine gf12_7 dX12_goesBy_143 146 rfl hk_l0 kw5_166 ?_
      refine x_icmp_ge dX12_goesBy_146 217 149 rfl rfl (fun hc => ?_) (fun hc => ?_)
      · have h := h.1 hc
        refine x_aload_n dX12_goesBy_217 rfl 218 rfl ?_
        refine kX12_allClimb dX12_goesBy_218 221 rfl hk_l0 kw6_86 (Nat.le_of_ble_eq_true rfl) (Nat.le_of_ble_eq_true rfl) h (fun M1 h => ?_)
        refine x_aload_n dX12_goesBy_221 rfl 222 rfl ?_
        refine gf12_1 dX12_goesBy_222 225 rfl hk_l0 kw5_160 ?_
        refine x_iconst dX12_goesBy_225 kc_0 226 rfl ?_
        refine x_aload_n dX12_goesBy_226 rfl 227 rfl ?_
        refine gf12_1 dX12_goesBy_227 230 rfl hk_l0 kw5_160 ?_
        refine x_iconst dX12_goesBy_230 kc_0 231 rfl ?_
        refine x_iaload dX12_goesBy_231 (ly12_1 hk_l0) (by unfold vp_in; decide) 232 rfl ?_
        refine x_iconst dX12_goesBy_232 kc_1 233 rfl ?_
        refine x_iadd dX12_goesBy_233 234 rfl ?_
        refine x_iastore dX12_goesBy_234 (ly12_1 hk_l0) (by unfold vp_in; decide) 235 rfl (x_mem (fun M2 hM2 => ?_))
        have h := h M2 hM2
        refine x_iload_n dX12_goesBy_235 rfl 236 rfl ?_
        exact x_iret dX12_goesBy_236 h
      · have h := h.2 hc
        refine x_aload_n dX12_goesBy_149 rfl 150 rfl ?_
        refine gf12_1 dX12_goesBy_150 153 rfl hk_l0 kw5_160 ?_
        refine x_bipush dX12_goesBy_153 kb_49 155 rfl ?_
        refine x_iload_n dX12_goesBy_155 rfl 156 rfl ?_
        refine x_iadd dX12_goesBy_156 157 rfl ?_
        obtain ⟨hin, h⟩ := h
        refine x_iaload dX12_goesBy_157 (ly12_1 hk_l0) hin 158 rfl ?_
        refine x_iconst dX12_goesBy_158 kc_1 159 rfl ?_
        refine x_icmp_ne dX12_goesBy_159 165 162 rfl rfl (fun hc => ?_) (fun hc => ?_)
        · have h := h.1 hc
          refine x_aload_n dX12_goesBy_165 rfl 166 rfl ?_
          refine gf12_1 dX12_goesBy_166 169 rfl hk_l0 kw5_160 ?_
          refine x_bipush dX12_goesBy_169 kb_7 171 rfl ?_
          refine x_iload_n dX12_goesBy_171 rfl 172 rfl ?_
          refine x_iadd dX12_goesBy_172 173 rfl ?_
          refine x_aload_n dX12_goesBy_173 rfl 174 rfl ?_
          refine x_bipush dX12_goesBy_174 kb_120 176 rfl ?_
          refine x_aload_n dX12_goesBy_176 rfl 177 rfl ?_
          refine gf12_1 dX12_goesBy_177 180 rfl hk_l0 kw5_160 ?_
          refine x_bipush dX12_goesBy_180 kb_7 182 rfl ?_
          refine x_iload_n dX12_goesBy_182 rfl 183 rfl ?_
          refine x_iadd dX12_goesBy_183 184 rfl ?_
          obtain ⟨hin, h⟩ := h
          refine x_iaload dX12_goesBy_184 (ly12_1 hk_l0) hin 185 rfl ?_
          refine x_iconst dX12_goesBy_185 kc_1 186 rfl ?_
          refine x_iadd dX12_goesBy_186 187 rfl ?_
          refine kX12_lesser dX12_goesBy_187 190 rfl hk_l0 kw7_62 (Nat.le_of_ble_eq_true rfl) (Nat.le_of_ble_eq_true rfl) h (fun r3 h => ?_)
          obtain ⟨hin, h⟩ := h
          refine x_iastore dX12_goesBy_190 (ly12_1 hk_l0) hin 191 rfl (x_mem (fun M4 hM4 => ?_))
          have h := h M4 hM4
          refine x_aload_n dX12_goesBy_191 rfl 192 rfl ?_
          refine x_iload_n dX12_goesBy_192 rfl 193 rfl ?_
          refine kX12_isEnding dX12_goesBy_193 196 rfl hk_l0 kw7_150 (Nat.le_of_ble_eq_true rfl) (Nat.le_of_ble_eq_true rfl) h (fun r6 M5 h => ?_)
          refine x_if_ne_b dX12_goesBy_196 202 199 rfl rfl (fun hc => ?_) (fun hc => ?_)
          · have h := h.1 hc
            refine x_aload_n dX12_goesBy_202 rfl 203 rfl ?_
            refine x_iload_n dX12_goesBy_203 rfl 204 rfl ?_
            refine kX12_dies dX12_goesBy_204 207 rfl hk_l0 kw7_164 (Nat.le_of_ble_eq_true rfl) (Nat.le_of_ble_eq_true rfl) h (fun M7 h => ?_)
            refine x_iload_n dX12_goesBy_207 rfl 208 rfl ?_
            refine x_iconst dX12_goesBy_208 kc_1 209 rfl ?_
            refine x_iadd dX12_goesBy_209 210 rfl ?_
            refine x_istore_n dX12_goesBy_210 (Nat.le_of_ble_eq_true rfl) [(0, .ref l0), (1, .int (l1 + 1)), (2, .int l2)] rfl 211 rfl ?_
            refine x_iinc dX12_goesBy_211 rfl (congrArg (l2 + ·) kc_1) (Nat.le_of_ble_eq_true rfl) [(0, .ref l0), (1, .int (l1 + 1)), (2, .int (l2 + 1))] rfl 214 rfl ?_
            refine x_goto dX12_goesBy_214 141 rfl ?_
            exact hB141 _ _ _ h
          · have h := h.2 hc
            refine x_goto dX12_goesBy_199 211 rfl ?_
            refine x_iinc dX12_goesBy_211 rfl (congrArg (l2 + ·) kc_1) (Nat.le_of_ble_eq_true rfl) [(0, .ref l0), (1, .int l1), (2, .int (l2 + 1))] rfl 214 rfl ?_
            refine x_goto dX12_goesBy_214 141 rfl ?_
            exact hB141 _ _ _ h
        · have h := h.2 hc
          refine x_goto dX12_goesBy_162 211 rfl ?_
          refine x_iinc dX12_goesBy_211 rfl (congrArg (l2 + ·) kc_1) (Nat.le_of_ble_eq_true rfl) [(0, .ref l0), (1, .int l1), (2, .int (l2 + 1))] rfl 214 rfl ?_
          refine x_goto dX12_goesBy_214 141 rfl ?_
          exact hB141 _ _ _ h
  exact hB141 n l1 l2 M h
def lbX12_goesBy_80 (Q : Int32 → Mem → Prop) (l0 : Nat) (B80 : Int32 → Mem → Prop) (l1 : Int32) (M : Mem) : Prop :=
  (((M l0 6) ≤ l1 → NX12_goesBy_141 Q l0 0 0 M) ∧ (¬ (M l0 6) ≤ l1 → FX12_sitterOf (fun (r8 : Int32) => ((r8 = (-1) → B80 (l1 + 1) M) ∧ (¬ r8 = (-1) → vp_in (21 + r8) 107 ∧ FX12_leansOf (fun (r10 : Int32) (M9 : Mem) => FX12_held (fun (r11 : Int32) => vp_in (21 + r8) 107 ∧ ∀ M12 : Mem, M12 = xu M9 (l0 + 1) (ix (21 + r8)) r11 → B80 (l1 + 1) M12) l0 ((M (l0 + 1) (ix (21 + r8))) + r10) (-99) 99 M9) l0 r8 M))) l0 l1 M))
def NX12_goesBy_80 (Q : Int32 → Mem → Prop) (l0 : Nat) (l1 : Int32) (M : Mem) : Prop := xlp (fun (B : Int32 × Mem → Prop) a => lbX12_goesBy_80 Q l0 (fun l1 M => B (l1, M)) a.1 a.2) (l1, M)
theorem nX12_goesBy_80 {Q : Int32 → Mem → Prop} {l0 : Nat} {l1 : Int32} {M : Mem} (hk_l0 : SHk l0 = 12) (h : NX12_goesBy_80 Q l0 l1 M) : xX RX12 cX12_goesBy 3 (some .int) 8 80 [(0, .ref l0), (1, .int l1)] [] M (xQi Q) := by
  obtain ⟨n, h⟩ := h
  have hB80 : ∀ (n : Nat) (l1 : Int32) (M : Mem), xlpn (fun (B : Int32 × Mem → Prop) a => lbX12_goesBy_80 Q l0 (fun l1 M => B (l1, M)) a.1 a.2) n (l1, M) → xX RX12 cX12_goesBy 3 (some .int) 8 80 [(0, .ref l0), (1, .int l1)] [] M (xQi Q) := by
    intro n
    induction n with
    | zero => intro l1 M h; exact False.elim h
    | succ n ih =>
      intro l1 M h
      have hB80 := ih
      have h : lbX12_goesBy_80 Q l0 (fun l1 M => xlpn (fun (B : Int32 × Mem → Prop) a => lbX12_goesBy_80 Q l0 (fun l1 M => B (l1, M)) a.1 a.2) n (l1, M)) l1 M := h
      unfold lbX12_goesBy_80 at h
      refine x_iload_n dX12_goesBy_80 rfl 81 rfl ?_
      refine x_aload_n dX12_goesBy_81 rfl 82 rfl ?_
      refine gf12_6 dX12_goesBy_82 85 rfl hk_l0 kw5_165 ?_
      refine x_icmp_ge dX12_goesBy_85 137 88 rfl rfl (fun hc => ?_) (fun hc => ?_)
      · have h := h.1 hc
        refine x_iconst dX12_goesBy_137 kc_0 138 rfl ?_
        refine x_istore_n dX12_goesBy_138 (Nat.le_of_ble_eq_true rfl) [(0, .ref l0), (1, .int 0)] rfl 139 rfl ?_
        refine x_iconst dX12_goesBy_139 kc_0 140 rfl ?_
        refine x_istore_n dX12_goesBy_140 (Nat.le_of_ble_eq_true rfl) [(0, .ref l0), (1, .int 0), (2, .int 0)] rfl 141 rfl ?_
        exact nX12_goesBy_141 hk_l0 h
      · have h := h.2 hc
        refine x_aload_n dX12_goesBy_88 rfl 89 rfl ?_
        refine x_iload_n dX12_goesBy_89 rfl 90 rfl ?_
        refine kX12_sitterOf dX12_goesBy_90 93 rfl hk_l0 kw6_90 (Nat.le_of_ble_eq_true rfl) (Nat.le_of_ble_eq_true rfl) h (fun r8 h => ?_)
        refine x_istore_n dX12_goesBy_93 (Nat.le_of_ble_eq_true rfl) [(0, .ref l0), (1, .int l1), (2, .int r8)] rfl 94 rfl ?_
        refine x_iload_n dX12_goesBy_94 rfl 95 rfl ?_
        refine x_iconst dX12_goesBy_95 kc_m1 96 rfl ?_
        refine x_icmp_eq dX12_goesBy_96 131 99 rfl rfl (fun hc => ?_) (fun hc => ?_)
        · have h := h.1 hc
          refine x_iinc dX12_goesBy_131 rfl (congrArg (l1 + ·) kc_1) (Nat.le_of_ble_eq_true rfl) [(0, .ref l0), (1, .int (l1 + 1)), (2, .int r8)] rfl 134 rfl ?_
          refine x_goto dX12_goesBy_134 80 rfl ?_
          refine x_weak [(0, .ref l0), (1, .int (l1 + 1))] [0, 1] rfl ?_
          exact hB80 _ _ h
        · have h := h.2 hc
          refine x_aload_n dX12_goesBy_99 rfl 100 rfl ?_
          refine gf12_1 dX12_goesBy_100 103 rfl hk_l0 kw5_160 ?_
          refine x_bipush dX12_goesBy_103 kb_21 105 rfl ?_
          refine x_iload_n dX12_goesBy_105 rfl 106 rfl ?_
          refine x_iadd dX12_goesBy_106 107 rfl ?_
          refine x_aload_n dX12_goesBy_107 rfl 108 rfl ?_
          refine x_aload_n dX12_goesBy_108 rfl 109 rfl ?_
          refine gf12_1 dX12_goesBy_109 112 rfl hk_l0 kw5_160 ?_
          refine x_bipush dX12_goesBy_112 kb_21 114 rfl ?_
          refine x_iload_n dX12_goesBy_114 rfl 115 rfl ?_
          refine x_iadd dX12_goesBy_115 116 rfl ?_
          obtain ⟨hin, h⟩ := h
          refine x_iaload dX12_goesBy_116 (ly12_1 hk_l0) hin 117 rfl ?_
          refine x_aload_n dX12_goesBy_117 rfl 118 rfl ?_
          refine x_iload_n dX12_goesBy_118 rfl 119 rfl ?_
          refine kX12_leansOf dX12_goesBy_119 122 rfl hk_l0 kw7_142 (Nat.le_of_ble_eq_true rfl) (Nat.le_of_ble_eq_true rfl) h (fun r10 M9 h => ?_)
          refine x_iadd dX12_goesBy_122 123 rfl ?_
          refine x_bipush dX12_goesBy_123 kb_m99 125 rfl ?_
          refine x_bipush dX12_goesBy_125 kb_99 127 rfl ?_
          refine kX12_held dX12_goesBy_127 130 rfl hk_l0 kw7_126 (Nat.le_of_ble_eq_true rfl) (Nat.le_of_ble_eq_true rfl) h (fun r11 h => ?_)
          obtain ⟨hin, h⟩ := h
          refine x_iastore dX12_goesBy_130 (ly12_1 hk_l0) hin 131 rfl (x_mem (fun M12 hM12 => ?_))
          have h := h M12 hM12
          refine x_iinc dX12_goesBy_131 rfl (congrArg (l1 + ·) kc_1) (Nat.le_of_ble_eq_true rfl) [(0, .ref l0), (1, .int (l1 + 1)), (2, .int r8)] rfl 134 rfl ?_
          refine x_goto dX12_goesBy_134 80 rfl ?_
          refine x_weak [(0, .ref l0), (1, .int (l1 + 1))] [0, 1] rfl ?_
          exact hB80 _ _ h
  exact hB80 n l1 M h
def NX12_goesBy_70 (Q : Int32 → Mem → Prop) (l0 : Nat) (M : Mem) : Prop :=
  FX12_basketGoes (fun (M13 : Mem) => FX12_adviceGoes (fun (M14 : Mem) => NX12_goesBy_80 Q l0 0 M14) l0 M13) l0 M
theorem nX12_goesBy_70 {Q : Int32 → Mem → Prop} {l0 : Nat} {M : Mem} (hk_l0 : SHk l0 = 12) (h : NX12_goesBy_70 Q l0 M) : xX RX12 cX12_goesBy 3 (some .int) 8 70 [(0, .ref l0)] [] M (xQi Q) := by
  unfold NX12_goesBy_70 at h
  refine x_aload_n dX12_goesBy_70 rfl 71 rfl ?_
  refine kX12_basketGoes dX12_goesBy_71 74 rfl hk_l0 kw7_86 (Nat.le_of_ble_eq_true rfl) (Nat.le_of_ble_eq_true rfl) h (fun M13 h => ?_)
  refine x_aload_n dX12_goesBy_74 rfl 75 rfl ?_
  refine kX12_adviceGoes dX12_goesBy_75 78 rfl hk_l0 kw7_134 (Nat.le_of_ble_eq_true rfl) (Nat.le_of_ble_eq_true rfl) h (fun M14 h => ?_)
  refine x_iconst dX12_goesBy_78 kc_0 79 rfl ?_
  refine x_istore_n dX12_goesBy_79 (Nat.le_of_ble_eq_true rfl) [(0, .ref l0), (1, .int 0)] rfl 80 rfl ?_
  exact nX12_goesBy_80 hk_l0 h
def lbX12_goesBy_2 (Q : Int32 → Mem → Prop) (l0 : Nat) (B2 : Int32 → Mem → Prop) (l1 : Int32) (M : Mem) : Prop :=
  (((M l0 35) ≤ l1 → FX12_skyOf (fun (r15 : Int32) => ((r15 = (-1) → NX12_goesBy_70 Q l0 M) ∧ (¬ r15 = (-1) → FX12_skyOf (fun (r16 : Int32) => ∀ M17 : Mem, M17 = xu M (l0 + 1) (5) r16 → NX12_goesBy_70 Q l0 M17) l0 (M (l0 + 1) 0) M))) l0 (M (l0 + 1) 0) M) ∧ (¬ (M l0 35) ≤ l1 → vp_in (4 * l1) 128 ∧ ((¬ (M (l0 + 17) (ix (4 * l1))) = (M (l0 + 1) 0) → B2 (l1 + 1) M) ∧ ((M (l0 + 17) (ix (4 * l1))) = (M (l0 + 1) 0) → FX12_does (fun (M18 : Mem) => B2 (l1 + 1) M18) l0 (4 * l1) M))))
def NX12_goesBy_2 (Q : Int32 → Mem → Prop) (l0 : Nat) (l1 : Int32) (M : Mem) : Prop := xlp (fun (B : Int32 × Mem → Prop) a => lbX12_goesBy_2 Q l0 (fun l1 M => B (l1, M)) a.1 a.2) (l1, M)
theorem nX12_goesBy_2 {Q : Int32 → Mem → Prop} {l0 : Nat} {l1 : Int32} {M : Mem} (hk_l0 : SHk l0 = 12) (h : NX12_goesBy_2 Q l0 l1 M) : xX RX12 cX12_goesBy 3 (some .int) 8 2 [(0, .ref l0), (1, .int l1)] [] M (xQi Q) := by
  obtain ⟨n, h⟩ := h
  have hB2 : ∀ (n : Nat) (l1 : Int32) (M : Mem), xlpn (fun (B : Int32 × Mem → Prop) a => lbX12_goesBy_2 Q l0 (fun l1 M => B (l1, M)) a.1 a.2) n (l1, M) → xX RX12 cX12_goesBy 3 (some .int) 8 2 [(0, .ref l0), (1, .int l1)] [] M (xQi Q) := by
    intro n
    induction n with
    | zero => intro l1 M h; exact False.elim h
    | succ n ih =>
      intro l1 M h
      have hB2 := ih
      have h : lbX12_goesBy_2 Q l0 (fun l1 M => xlpn (fun (B : Int32 × Mem → Prop) a => lbX12_goesBy_2 Q l0 (fun l1 M => B (l1, M)) a.1 a.2) n (l1, M)) l1 M := h
      unfold lbX12_goesBy_2 at h
      refine x_iload_n dX12_goesBy_2 rfl 3 rfl ?_
      refine x_aload_n dX12_goesBy_3 rfl 4 rfl ?_
      refine gf12_35 dX12_goesBy_4 7 rfl hk_l0 kw5_194 ?_
      refine x_icmp_ge dX12_goesBy_7 40 10 rfl rfl (fun hc => ?_) (fun hc => ?_)
      · have h := h.1 hc
        refine x_aload_n dX12_goesBy_40 rfl 41 rfl ?_
        refine x_aload_n dX12_goesBy_41 rfl 42 rfl ?_
        refine gf12_1 dX12_goesBy_42 45 rfl hk_l0 kw5_160 ?_
        refine x_iconst dX12_goesBy_45 kc_0 46 rfl ?_
        refine x_iaload dX12_goesBy_46 (ly12_1 hk_l0) (by unfold vp_in; decide) 47 rfl ?_
        refine kX12_skyOf dX12_goesBy_47 50 rfl hk_l0 kw7_82 (Nat.le_of_ble_eq_true rfl) (Nat.le_of_ble_eq_true rfl) h (fun r15 h => ?_)
        refine x_iconst dX12_goesBy_50 kc_m1 51 rfl ?_
        refine x_icmp_eq dX12_goesBy_51 70 54 rfl rfl (fun hc => ?_) (fun hc => ?_)
        · have h := h.1 hc
          refine x_weak [(0, .ref l0)] [0] rfl ?_
          exact nX12_goesBy_70 hk_l0 h
        · have h := h.2 hc
          refine x_aload_n dX12_goesBy_54 rfl 55 rfl ?_
          refine gf12_1 dX12_goesBy_55 58 rfl hk_l0 kw5_160 ?_
          refine x_iconst dX12_goesBy_58 kc_5 59 rfl ?_
          refine x_aload_n dX12_goesBy_59 rfl 60 rfl ?_
          refine x_aload_n dX12_goesBy_60 rfl 61 rfl ?_
          refine gf12_1 dX12_goesBy_61 64 rfl hk_l0 kw5_160 ?_
          refine x_iconst dX12_goesBy_64 kc_0 65 rfl ?_
          refine x_iaload dX12_goesBy_65 (ly12_1 hk_l0) (by unfold vp_in; decide) 66 rfl ?_
          refine kX12_skyOf dX12_goesBy_66 69 rfl hk_l0 kw7_82 (Nat.le_of_ble_eq_true rfl) (Nat.le_of_ble_eq_true rfl) h (fun r16 h => ?_)
          refine x_iastore dX12_goesBy_69 (ly12_1 hk_l0) (by unfold vp_in; decide) 70 rfl (x_mem (fun M17 hM17 => ?_))
          have h := h M17 hM17
          refine x_weak [(0, .ref l0)] [0] rfl ?_
          exact nX12_goesBy_70 hk_l0 h
      · have h := h.2 hc
        refine x_aload_n dX12_goesBy_10 rfl 11 rfl ?_
        refine gf12_36 dX12_goesBy_11 14 rfl hk_l0 kw5_195 ?_
        refine x_iconst dX12_goesBy_14 kc_4 15 rfl ?_
        refine x_iload_n dX12_goesBy_15 rfl 16 rfl ?_
        refine x_imul dX12_goesBy_16 17 rfl ?_
        obtain ⟨hin, h⟩ := h
        refine x_iaload dX12_goesBy_17 (ly12_36 hk_l0) hin 18 rfl ?_
        refine x_aload_n dX12_goesBy_18 rfl 19 rfl ?_
        refine gf12_1 dX12_goesBy_19 22 rfl hk_l0 kw5_160 ?_
        refine x_iconst dX12_goesBy_22 kc_0 23 rfl ?_
        refine x_iaload dX12_goesBy_23 (ly12_1 hk_l0) (by unfold vp_in; decide) 24 rfl ?_
        refine x_icmp_ne dX12_goesBy_24 34 27 rfl rfl (fun hc => ?_) (fun hc => ?_)
        · have h := h.1 hc
          refine x_iinc dX12_goesBy_34 rfl (congrArg (l1 + ·) kc_1) (Nat.le_of_ble_eq_true rfl) [(0, .ref l0), (1, .int (l1 + 1))] rfl 37 rfl ?_
          refine x_goto dX12_goesBy_37 2 rfl ?_
          exact hB2 _ _ h
        · have h := h.2 hc
          refine x_aload_n dX12_goesBy_27 rfl 28 rfl ?_
          refine x_iconst dX12_goesBy_28 kc_4 29 rfl ?_
          refine x_iload_n dX12_goesBy_29 rfl 30 rfl ?_
          refine x_imul dX12_goesBy_30 31 rfl ?_
          refine kX12_does dX12_goesBy_31 34 rfl hk_l0 kw7_78 (Nat.le_of_ble_eq_true rfl) (Nat.le_of_ble_eq_true rfl) h (fun M18 h => ?_)
          refine x_iinc dX12_goesBy_34 rfl (congrArg (l1 + ·) kc_1) (Nat.le_of_ble_eq_true rfl) [(0, .ref l0), (1, .int (l1 + 1))] rfl 37 rfl ?_
          refine x_goto dX12_goesBy_37 2 rfl ?_
          exact hB2 _ _ h
  exact hB2 n l1 M h
def FX12_goesBy (Q : Int32 → Mem → Prop) (l0 : Nat) (M : Mem) : Prop :=
  NX12_goesBy_2 Q l0 0 M
theorem eX12_goesBy {Q : Int32 → Mem → Prop} {l0 : Nat} {M : Mem} (hk_l0 : SHk l0 = 12) (h : FX12_goesBy Q l0 M) : xX RX12 cX12_goesBy 3 (some .int) 8 0 [(0, .ref l0)] [] M (xQi Q) := by
  unfold FX12_goesBy at h
  refine x_iconst dX12_goesBy_0 kc_0 1 rfl ?_
  refine x_istore_n dX12_goesBy_1 (Nat.le_of_ble_eq_true rfl) [(0, .ref l0), (1, .int 0)] rfl 2 rfl ?_
  exact nX12_goesBy_2 hk_l0 h
theorem cX12_goesBy_ {Q : Int32 → Mem → Prop} {l0 : Nat} {M : Mem} (hk_l0 : SHk l0 = 12) (h : FX12_goesBy Q l0 M) : xM yX12_goesBy cX12_goesBy 3 (some .int) 8 [.ref l0] M (xQi Q) := xM_of (by decide +kernel) (Nat.le_of_ble_eq_true rfl) (eX12_goesBy hk_l0 h)
theorem kX12_goesBy {own : String} {cc : ByteArray} {nL : Nat} {rt : Option FieldType} {d pc ix : Nat} {L : List (Nat × Value)} {st : List Value} {M : Mem} {Rt : xGt → Array Value → State → Outcome → State → Prop} {Q : Int32 → Mem → Prop} {l0 : Nat} (hd : decode cc pc = .ok (.invokevirtual ix, 3)) (q : Nat) (hq : pc + 3 = q) (hk_l0 : SHk l0 = 12) (w1 : Cond.methodLink own ix yX12_goesBy ∈ xTs) (hr : 8 < d) (hst : (st.map fun v => v.category).sum ≤ 8) (h : FX12_goesBy Q l0 M) (k : ∀ (r : Int32) (N : Mem), Q r N → xX own cc nL rt d q L (.int r :: st) N Rt) : xX own cc nL rt d pc L (.ref l0 :: st) M Rt :=
  x_callV_i (n := 0) (As := []) hd q hq hk_l0 (by decide) rfl rfl w1 kw7_76 ks6_3 kw1_14 kw7_77 (by decide +kernel) rfl hr (by decide) hst _ rfl (cX12_goesBy_ hk_l0 h) k
def lbX12_days_36 (Q : Int32 → Mem → Prop) (l0 : Nat) (l1 : Int32) (B36 : Int32 → Int32 → Mem → Prop) (l2 : Int32) (l3 : Int32) (M : Mem) : Prop :=
  ((l1 ≤ l3 → Q l2 M) ∧ (¬ l1 ≤ l3 → FX12_keepsAhead (fun (M1 : Mem) => FX12_goesBy (fun (r3 : Int32) (M2 : Mem) => B36 (l2 + r3) (l3 + 1) M2) l0 M1) l0 M))
def NX12_days_36 (Q : Int32 → Mem → Prop) (l0 : Nat) (l1 : Int32) (l2 : Int32) (l3 : Int32) (M : Mem) : Prop := xlp (fun (B : Int32 × Int32 × Mem → Prop) a => lbX12_days_36 Q l0 l1 (fun l2 l3 M => B (l2, l3, M)) a.1 a.2.1 a.2.2) (l2, l3, M)
theorem nX12_days_36 {Q : Int32 → Mem → Prop} {l0 : Nat} {l1 : Int32} {l2 : Int32} {l3 : Int32} {M : Mem} (hk_l0 : SHk l0 = 12) (h : NX12_days_36 Q l0 l1 l2 l3 M) : xX RX12 cX12_days 4 (some .int) 9 36 [(0, .ref l0), (1, .int l1), (2, .int l2), (3, .int l3)] [] M (xQi Q) := by
  obtain ⟨n, h⟩ := h
  have hB36 : ∀ (n : Nat) (l2 : Int32) (l3 : Int32) (M : Mem), xlpn (fun (B : Int32 × Int32 × Mem → Prop) a => lbX12_days_36 Q l0 l1 (fun l2 l3 M => B (l2, l3, M)) a.1 a.2.1 a.2.2) n (l2, l3, M) → xX RX12 cX12_days 4 (some .int) 9 36 [(0, .ref l0), (1, .int l1), (2, .int l2), (3, .int l3)] [] M (xQi Q) := by
    intro n
    induction n with
    | zero => intro l2 l3 M h; exact False.elim h
    | succ n ih =>
      intro l2 l3 M h
      have hB36 := ih
      have h : lbX12_days_36 Q l0 l1 (fun l2 l3 M => xlpn (fun (B : Int32 × Int32 × Mem → Prop) a => lbX12_days_36 Q l0 l1 (fun l2 l3 M => B (l2, l3, M)) a.1 a.2.1 a.2.2) n (l2, l3, M)) l2 l3 M := h
      unfold lbX12_days_36 at h
      refine x_iload_n dX12_days_36 rfl 37 rfl ?_
      refine x_iload_n dX12_days_37 rfl 38 rfl ?_
      refine x_icmp_ge dX12_days_38 58 41 rfl rfl (fun hc => ?_) (fun hc => ?_)
      · have h := h.1 hc
        refine x_iload_n dX12_days_58 rfl 59 rfl ?_
        exact x_iret dX12_days_59 h
      · have h := h.2 hc
        refine x_aload_n dX12_days_41 rfl 42 rfl ?_
        refine kX12_keepsAhead dX12_days_42 45 rfl hk_l0 kw7_54 (Nat.le_of_ble_eq_true rfl) (Nat.le_of_ble_eq_true rfl) h (fun M1 h => ?_)
        refine x_iload_n dX12_days_45 rfl 46 rfl ?_
        refine x_aload_n dX12_days_46 rfl 47 rfl ?_
        refine kX12_goesBy dX12_days_47 50 rfl hk_l0 kw7_74 (Nat.le_of_ble_eq_true rfl) (Nat.le_of_ble_eq_true rfl) h (fun r3 M2 h => ?_)
        refine x_iadd dX12_days_50 51 rfl ?_
        refine x_istore_n dX12_days_51 (Nat.le_of_ble_eq_true rfl) [(0, .ref l0), (1, .int l1), (2, .int (l2 + r3)), (3, .int l3)] rfl 52 rfl ?_
        refine x_iinc dX12_days_52 rfl (congrArg (l3 + ·) kc_1) (Nat.le_of_ble_eq_true rfl) [(0, .ref l0), (1, .int l1), (2, .int (l2 + r3)), (3, .int (l3 + 1))] rfl 55 rfl ?_
        refine x_goto dX12_days_55 36 rfl ?_
        exact hB36 _ _ _ h
  exact hB36 n l2 l3 M h
def FX12_days (Q : Int32 → Mem → Prop) (l0 : Nat) (l1 : Int32) (M : Mem) : Prop :=
  ∀ M4 : Mem, M4 = xu M l0 0 0 → FX12_isIn (fun (r5 : Bool) => ((r5 = false → Q (-1) M4) ∧ (r5 = true → ((((M4 (l0 + 1) 0) + l1) ≤ 9999 → NX12_days_36 Q l0 l1 0 0 M4) ∧ (¬ ((M4 (l0 + 1) 0) + l1) ≤ 9999 → Q (-1) M4))))) l0 l1 1 60 M4
theorem eX12_days {Q : Int32 → Mem → Prop} {l0 : Nat} {l1 : Int32} {M : Mem} (hk_l0 : SHk l0 = 12) (h : FX12_days Q l0 l1 M) : xX RX12 cX12_days 4 (some .int) 9 0 [(0, .ref l0), (1, .int l1)] [] M (xQi Q) := by
  unfold FX12_days at h
  refine x_aload_n dX12_days_0 rfl 1 rfl ?_
  refine x_iconst dX12_days_1 kc_0 2 rfl ?_
  refine pf12_0 dX12_days_2 5 rfl hk_l0 kw5_159 (x_mem (fun M4 hM4 => ?_))
  have h := h M4 hM4
  refine x_aload_n dX12_days_5 rfl 6 rfl ?_
  refine x_iload_n dX12_days_6 rfl 7 rfl ?_
  refine x_iconst dX12_days_7 kc_1 8 rfl ?_
  refine x_bipush dX12_days_8 kb_60 10 rfl ?_
  refine kX12_isIn dX12_days_10 13 rfl hk_l0 kw6_82 (Nat.le_of_ble_eq_true rfl) (Nat.le_of_ble_eq_true rfl) h (fun r5 h => ?_)
  refine x_if_eq_b dX12_days_13 30 16 rfl rfl (fun hc => ?_) (fun hc => ?_)
  · have h := h.1 hc
    refine x_iconst dX12_days_30 kc_m1 31 rfl ?_
    exact x_iret dX12_days_31 h
  · have h := h.2 hc
    refine x_aload_n dX12_days_16 rfl 17 rfl ?_
    refine gf12_1 dX12_days_17 20 rfl hk_l0 kw5_160 ?_
    refine x_iconst dX12_days_20 kc_0 21 rfl ?_
    refine x_iaload dX12_days_21 (ly12_1 hk_l0) (by unfold vp_in; decide) 22 rfl ?_
    refine x_iload_n dX12_days_22 rfl 23 rfl ?_
    refine x_iadd dX12_days_23 24 rfl ?_
    refine x_sipush dX12_days_24 kh_9999 27 rfl ?_
    refine x_icmp_le dX12_days_27 32 30 rfl rfl (fun hc => ?_) (fun hc => ?_)
    · have h := h.1 hc
      refine x_iconst dX12_days_32 kc_0 33 rfl ?_
      refine x_istore_n dX12_days_33 (Nat.le_of_ble_eq_true rfl) [(0, .ref l0), (1, .int l1), (2, .int 0)] rfl 34 rfl ?_
      refine x_iconst dX12_days_34 kc_0 35 rfl ?_
      refine x_istore_n dX12_days_35 (Nat.le_of_ble_eq_true rfl) [(0, .ref l0), (1, .int l1), (2, .int 0), (3, .int 0)] rfl 36 rfl ?_
      exact nX12_days_36 hk_l0 h
    · have h := h.2 hc
      refine x_iconst dX12_days_30 kc_m1 31 rfl ?_
      exact x_iret dX12_days_31 h
theorem cX12_days_ {Q : Int32 → Mem → Prop} {l0 : Nat} {l1 : Int32} {M : Mem} (hk_l0 : SHk l0 = 12) (h : FX12_days Q l0 l1 M) : xM yX12_days cX12_days 4 (some .int) 9 [.ref l0, .int l1] M (xQi Q) := xM_of (by decide +kernel) (Nat.le_of_ble_eq_true rfl) (eX12_days hk_l0 h)
theorem kX12_days {own : String} {cc : ByteArray} {nL : Nat} {rt : Option FieldType} {d pc ix : Nat} {L : List (Nat × Value)} {st : List Value} {M : Mem} {Rt : xGt → Array Value → State → Outcome → State → Prop} {Q : Int32 → Mem → Prop} {l0 : Nat} {l1 : Int32} (hd : decode cc pc = .ok (.invokevirtual ix, 3)) (q : Nat) (hq : pc + 3 = q) (hk_l0 : SHk l0 = 12) (w1 : Cond.methodLink own ix yX12_days ∈ xTs) (hr : 9 < d) (hst : (st.map fun v => v.category).sum ≤ 8) (h : FX12_days Q l0 l1 M) (k : ∀ (r : Int32) (N : Mem), Q r N → xX own cc nL rt d q L (.int r :: st) N Rt) : xX own cc nL rt d pc L (.int l1 :: .ref l0 :: st) M Rt :=
  x_callV_i (n := 1) (As := [.int l1]) hd q hq hk_l0 (by decide) rfl rfl w1 kw7_71 kw7_72 kw1_14 kw7_73 (by decide +kernel) rfl hr (by decide) hst _ rfl (cX12_days_ hk_l0 h) k
def FX12_of (Q : Int32 → Mem → Prop) (l0 : Nat) (l1 : Int32) (l2 : Int32) (M : Mem) : Prop :=
  ∀ M1 : Mem, M1 = xu M l0 0 0 → FX12_isSaint (fun (r2 : Bool) => ((r2 = true → ((¬ l2 = 0 → ((¬ l2 = 1 → ((¬ l2 = 2 → ((¬ l2 = 3 → ((¬ l2 = 4 → ((¬ l2 = 5 → ((¬ l2 = 6 → ((¬ l2 = 7 → ((¬ l2 = 8 → ((¬ l2 = 9 → Q (-100) M1) ∧ (l2 = 9 → FX12_leansOf (fun (r4 : Int32) (M3 : Mem) => Q r4 M3) l0 l1 M1))) ∧ (l2 = 8 → FX12_diesOf (fun (r6 : Int32) (M5 : Mem) => Q r6 M5) l0 l1 M1))) ∧ (l2 = 7 → FX12_eatsOf (fun (r8 : Int32) (M7 : Mem) => Q r8 M7) l0 l1 M1))) ∧ (l2 = 6 → FX12_placeOf (fun (r9 : Int32) => Q r9 M1) l0 l1 M1))) ∧ (l2 = 5 → FX12_pillarOf (fun (r10 : Int32) => Q r10 M1) l0 l1 M1))) ∧ (l2 = 4 → vp_in (49 + l1) 107 ∧ Q (M1 (l0 + 1) (ix (49 + l1))) M1))) ∧ (l2 = 3 → vp_in (35 + l1) 107 ∧ Q (M1 (l0 + 1) (ix (35 + l1))) M1))) ∧ (l2 = 2 → vp_in (21 + l1) 107 ∧ Q (M1 (l0 + 1) (ix (21 + l1))) M1))) ∧ (l2 = 1 → vp_in l1 14 ∧ Q (M1 (l0 + 4) (ix l1)) M1))) ∧ (l2 = 0 → vp_in (7 + l1) 107 ∧ Q (M1 (l0 + 1) (ix (7 + l1))) M1))) ∧ (r2 = false → Q (-100) M1))) l0 l1 M1
theorem eX12_of {Q : Int32 → Mem → Prop} {l0 : Nat} {l1 : Int32} {l2 : Int32} {M : Mem} (hk_l0 : SHk l0 = 12) (h : FX12_of Q l0 l1 l2 M) : xX RX12 cX12_of 3 (some .int) 6 0 [(0, .ref l0), (1, .int l1), (2, .int l2)] [] M (xQi Q) := by
  unfold FX12_of at h
  refine x_aload_n dX12_of_0 rfl 1 rfl ?_
  refine x_iconst dX12_of_1 kc_0 2 rfl ?_
  refine pf12_0 dX12_of_2 5 rfl hk_l0 kw5_159 (x_mem (fun M1 hM1 => ?_))
  have h := h M1 hM1
  refine x_aload_n dX12_of_5 rfl 6 rfl ?_
  refine x_iload_n dX12_of_6 rfl 7 rfl ?_
  refine kX12_isSaint dX12_of_7 10 rfl hk_l0 kw6_122 (Nat.le_of_ble_eq_true rfl) (Nat.le_of_ble_eq_true rfl) h (fun r2 h => ?_)
  refine x_if_ne_b dX12_of_10 16 13 rfl rfl (fun hc => ?_) (fun hc => ?_)
  · have h := h.1 hc
    refine x_iload_n dX12_of_16 rfl 17 rfl ?_
    refine x_if_ne dX12_of_17 30 20 rfl rfl (fun hc => ?_) (fun hc => ?_)
    · have h := h.1 hc
      refine x_iload_n dX12_of_30 rfl 31 rfl ?_
      refine x_iconst dX12_of_31 kc_1 32 rfl ?_
      refine x_icmp_ne dX12_of_32 42 35 rfl rfl (fun hc => ?_) (fun hc => ?_)
      · have h := h.1 hc
        refine x_iload_n dX12_of_42 rfl 43 rfl ?_
        refine x_iconst dX12_of_43 kc_2 44 rfl ?_
        refine x_icmp_ne dX12_of_44 57 47 rfl rfl (fun hc => ?_) (fun hc => ?_)
        · have h := h.1 hc
          refine x_iload_n dX12_of_57 rfl 58 rfl ?_
          refine x_iconst dX12_of_58 kc_3 59 rfl ?_
          refine x_icmp_ne dX12_of_59 72 62 rfl rfl (fun hc => ?_) (fun hc => ?_)
          · have h := h.1 hc
            refine x_iload_n dX12_of_72 rfl 73 rfl ?_
            refine x_iconst dX12_of_73 kc_4 74 rfl ?_
            refine x_icmp_ne dX12_of_74 87 77 rfl rfl (fun hc => ?_) (fun hc => ?_)
            · have h := h.1 hc
              refine x_iload_n dX12_of_87 rfl 88 rfl ?_
              refine x_iconst dX12_of_88 kc_5 89 rfl ?_
              refine x_icmp_ne dX12_of_89 98 92 rfl rfl (fun hc => ?_) (fun hc => ?_)
              · have h := h.1 hc
                refine x_iload_n dX12_of_98 rfl 99 rfl ?_
                refine x_bipush dX12_of_99 kb_6 101 rfl ?_
                refine x_icmp_ne dX12_of_101 110 104 rfl rfl (fun hc => ?_) (fun hc => ?_)
                · have h := h.1 hc
                  refine x_iload_n dX12_of_110 rfl 111 rfl ?_
                  refine x_bipush dX12_of_111 kb_7 113 rfl ?_
                  refine x_icmp_ne dX12_of_113 122 116 rfl rfl (fun hc => ?_) (fun hc => ?_)
                  · have h := h.1 hc
                    refine x_iload_n dX12_of_122 rfl 123 rfl ?_
                    refine x_bipush dX12_of_123 kb_8 125 rfl ?_
                    refine x_icmp_ne dX12_of_125 136 128 rfl rfl (fun hc => ?_) (fun hc => ?_)
                    · have h := h.1 hc
                      refine x_iload_n dX12_of_136 rfl 137 rfl ?_
                      refine x_bipush dX12_of_137 kb_9 139 rfl ?_
                      refine x_icmp_ne dX12_of_139 150 142 rfl rfl (fun hc => ?_) (fun hc => ?_)
                      · have h := h.1 hc
                        refine x_bipush dX12_of_150 kb_m100 152 rfl ?_
                        exact x_iret dX12_of_152 h
                      · have h := h.2 hc
                        refine x_aload_n dX12_of_142 rfl 143 rfl ?_
                        refine x_iload_n dX12_of_143 rfl 144 rfl ?_
                        refine kX12_leansOf dX12_of_144 147 rfl hk_l0 kw7_142 (Nat.le_of_ble_eq_true rfl) (Nat.le_of_ble_eq_true rfl) h (fun r4 M3 h => ?_)
                        refine x_goto dX12_of_147 152 rfl ?_
                        exact x_iret dX12_of_152 h
                    · have h := h.2 hc
                      refine x_aload_n dX12_of_128 rfl 129 rfl ?_
                      refine x_iload_n dX12_of_129 rfl 130 rfl ?_
                      refine kX12_diesOf dX12_of_130 133 rfl hk_l0 kw7_154 (Nat.le_of_ble_eq_true rfl) (Nat.le_of_ble_eq_true rfl) h (fun r6 M5 h => ?_)
                      refine x_goto dX12_of_133 152 rfl ?_
                      exact x_iret dX12_of_152 h
                  · have h := h.2 hc
                    refine x_aload_n dX12_of_116 rfl 117 rfl ?_
                    refine x_iload_n dX12_of_117 rfl 118 rfl ?_
                    refine kX12_eatsOf dX12_of_118 121 rfl hk_l0 kw7_94 (Nat.le_of_ble_eq_true rfl) (Nat.le_of_ble_eq_true rfl) h (fun r8 M7 h => ?_)
                    exact x_iret dX12_of_121 h
                · have h := h.2 hc
                  refine x_aload_n dX12_of_104 rfl 105 rfl ?_
                  refine x_iload_n dX12_of_105 rfl 106 rfl ?_
                  refine kX12_placeOf dX12_of_106 109 rfl hk_l0 kw7_168 (Nat.le_of_ble_eq_true rfl) (Nat.le_of_ble_eq_true rfl) h (fun r9 h => ?_)
                  exact x_iret dX12_of_109 h
              · have h := h.2 hc
                refine x_aload_n dX12_of_92 rfl 93 rfl ?_
                refine x_iload_n dX12_of_93 rfl 94 rfl ?_
                refine kX12_pillarOf dX12_of_94 97 rfl hk_l0 kw7_46 (Nat.le_of_ble_eq_true rfl) (Nat.le_of_ble_eq_true rfl) h (fun r10 h => ?_)
                exact x_iret dX12_of_97 h
            · have h := h.2 hc
              refine x_aload_n dX12_of_77 rfl 78 rfl ?_
              refine gf12_1 dX12_of_78 81 rfl hk_l0 kw5_160 ?_
              refine x_bipush dX12_of_81 kb_49 83 rfl ?_
              refine x_iload_n dX12_of_83 rfl 84 rfl ?_
              refine x_iadd dX12_of_84 85 rfl ?_
              obtain ⟨hin, h⟩ := h
              refine x_iaload dX12_of_85 (ly12_1 hk_l0) hin 86 rfl ?_
              exact x_iret dX12_of_86 h
          · have h := h.2 hc
            refine x_aload_n dX12_of_62 rfl 63 rfl ?_
            refine gf12_1 dX12_of_63 66 rfl hk_l0 kw5_160 ?_
            refine x_bipush dX12_of_66 kb_35 68 rfl ?_
            refine x_iload_n dX12_of_68 rfl 69 rfl ?_
            refine x_iadd dX12_of_69 70 rfl ?_
            obtain ⟨hin, h⟩ := h
            refine x_iaload dX12_of_70 (ly12_1 hk_l0) hin 71 rfl ?_
            exact x_iret dX12_of_71 h
        · have h := h.2 hc
          refine x_aload_n dX12_of_47 rfl 48 rfl ?_
          refine gf12_1 dX12_of_48 51 rfl hk_l0 kw5_160 ?_
          refine x_bipush dX12_of_51 kb_21 53 rfl ?_
          refine x_iload_n dX12_of_53 rfl 54 rfl ?_
          refine x_iadd dX12_of_54 55 rfl ?_
          obtain ⟨hin, h⟩ := h
          refine x_iaload dX12_of_55 (ly12_1 hk_l0) hin 56 rfl ?_
          exact x_iret dX12_of_56 h
      · have h := h.2 hc
        refine x_aload_n dX12_of_35 rfl 36 rfl ?_
        refine gf12_8 dX12_of_36 39 rfl hk_l0 kw5_167 ?_
        refine x_iload_n dX12_of_39 rfl 40 rfl ?_
        obtain ⟨hin, h⟩ := h
        refine x_iaload dX12_of_40 (ly12_8 hk_l0) hin 41 rfl ?_
        exact x_iret dX12_of_41 h
    · have h := h.2 hc
      refine x_aload_n dX12_of_20 rfl 21 rfl ?_
      refine gf12_1 dX12_of_21 24 rfl hk_l0 kw5_160 ?_
      refine x_bipush dX12_of_24 kb_7 26 rfl ?_
      refine x_iload_n dX12_of_26 rfl 27 rfl ?_
      refine x_iadd dX12_of_27 28 rfl ?_
      obtain ⟨hin, h⟩ := h
      refine x_iaload dX12_of_28 (ly12_1 hk_l0) hin 29 rfl ?_
      exact x_iret dX12_of_29 h
  · have h := h.2 hc
    refine x_bipush dX12_of_13 kb_m100 15 rfl ?_
    exact x_iret dX12_of_15 h
theorem cX12_of_ {Q : Int32 → Mem → Prop} {l0 : Nat} {l1 : Int32} {l2 : Int32} {M : Mem} (hk_l0 : SHk l0 = 12) (h : FX12_of Q l0 l1 l2 M) : xM yX12_of cX12_of 3 (some .int) 6 [.ref l0, .int l1, .int l2] M (xQi Q) := xM_of (by decide +kernel) (Nat.le_of_ble_eq_true rfl) (eX12_of hk_l0 h)
theorem kX12_of {own : String} {cc : ByteArray} {nL : Nat} {rt : Option FieldType} {d pc ix : Nat} {L : List (Nat × Value)} {st : List Value} {M : Mem} {Rt : xGt → Array Value → State → Outcome → State → Prop} {Q : Int32 → Mem → Prop} {l0 : Nat} {l1 : Int32} {l2 : Int32} (hd : decode cc pc = .ok (.invokevirtual ix, 3)) (q : Nat) (hq : pc + 3 = q) (hk_l0 : SHk l0 = 12) (w1 : Cond.methodLink own ix yX12_of ∈ xTs) (hr : 6 < d) (hst : (st.map fun v => v.category).sum ≤ 8) (h : FX12_of Q l0 l1 l2 M) (k : ∀ (r : Int32) (N : Mem), Q r N → xX own cc nL rt d q L (.int r :: st) N Rt) : xX own cc nL rt d pc L (.int l2 :: .int l1 :: .ref l0 :: st) M Rt :=
  x_callV_i (n := 2) (As := [.int l1, .int l2]) hd q hq hk_l0 (by decide) rfl rfl w1 kw7_173 kw7_174 kw1_14 kw7_175 (by decide +kernel) rfl hr (by decide) hst _ rfl (cX12_of_ hk_l0 h) k
def FX12_at (Q : Int32 → Mem → Prop) (l0 : Nat) (l1 : Int32) (l2 : Int32) (M : Mem) : Prop :=
  ∀ M1 : Mem, M1 = xu M l0 0 0 → FX12_isPillar (fun (r2 : Bool) => ((r2 = true → ((¬ l2 = 0 → ((¬ l2 = 1 → ((¬ l2 = 2 → Q (-200) M1) ∧ (l2 = 2 → vp_in (83 + l1) 107 ∧ ((¬ (M1 (l0 + 1) (ix (83 + l1))) = 0 → vp_in (83 + l1) 107 ∧ Q ((M1 (l0 + 1) (ix (83 + l1))) - 100) M1) ∧ ((M1 (l0 + 1) (ix (83 + l1))) = 0 → Q (-100) M1))))) ∧ (l2 = 1 → FX12_sitterOf (fun (r3 : Int32) => Q r3 M1) l0 l1 M1))) ∧ (l2 = 0 → vp_in (63 + l1) 107 ∧ Q (M1 (l0 + 1) (ix (63 + l1))) M1))) ∧ (r2 = false → Q (-200) M1))) l0 l1 M1
theorem eX12_at {Q : Int32 → Mem → Prop} {l0 : Nat} {l1 : Int32} {l2 : Int32} {M : Mem} (hk_l0 : SHk l0 = 12) (h : FX12_at Q l0 l1 l2 M) : xX RX12 cX12_at 3 (some .int) 2 0 [(0, .ref l0), (1, .int l1), (2, .int l2)] [] M (xQi Q) := by
  unfold FX12_at at h
  refine x_aload_n dX12_at_0 rfl 1 rfl ?_
  refine x_iconst dX12_at_1 kc_0 2 rfl ?_
  refine pf12_0 dX12_at_2 5 rfl hk_l0 kw5_159 (x_mem (fun M1 hM1 => ?_))
  have h := h M1 hM1
  refine x_aload_n dX12_at_5 rfl 6 rfl ?_
  refine x_iload_n dX12_at_6 rfl 7 rfl ?_
  refine kX12_isPillar dX12_at_7 10 rfl hk_l0 kw7_50 (Nat.le_of_ble_eq_true rfl) (Nat.le_of_ble_eq_true rfl) h (fun r2 h => ?_)
  refine x_if_ne_b dX12_at_10 17 13 rfl rfl (fun hc => ?_) (fun hc => ?_)
  · have h := h.1 hc
    refine x_iload_n dX12_at_17 rfl 18 rfl ?_
    refine x_if_ne dX12_at_18 31 21 rfl rfl (fun hc => ?_) (fun hc => ?_)
    · have h := h.1 hc
      refine x_iload_n dX12_at_31 rfl 32 rfl ?_
      refine x_iconst dX12_at_32 kc_1 33 rfl ?_
      refine x_icmp_ne dX12_at_33 42 36 rfl rfl (fun hc => ?_) (fun hc => ?_)
      · have h := h.1 hc
        refine x_iload_n dX12_at_42 rfl 43 rfl ?_
        refine x_iconst dX12_at_43 kc_2 44 rfl ?_
        refine x_icmp_ne dX12_at_44 79 47 rfl rfl (fun hc => ?_) (fun hc => ?_)
        · have h := h.1 hc
          refine x_sipush dX12_at_79 kh_m200 82 rfl ?_
          exact x_iret dX12_at_82 h
        · have h := h.2 hc
          refine x_aload_n dX12_at_47 rfl 48 rfl ?_
          refine gf12_1 dX12_at_48 51 rfl hk_l0 kw5_160 ?_
          refine x_bipush dX12_at_51 kb_83 53 rfl ?_
          refine x_iload_n dX12_at_53 rfl 54 rfl ?_
          refine x_iadd dX12_at_54 55 rfl ?_
          obtain ⟨hin, h⟩ := h
          refine x_iaload dX12_at_55 (ly12_1 hk_l0) hin 56 rfl ?_
          refine x_if_ne dX12_at_56 64 59 rfl rfl (fun hc => ?_) (fun hc => ?_)
          · have h := h.1 hc
            refine x_aload_n dX12_at_64 rfl 65 rfl ?_
            refine gf12_1 dX12_at_65 68 rfl hk_l0 kw5_160 ?_
            refine x_bipush dX12_at_68 kb_83 70 rfl ?_
            refine x_iload_n dX12_at_70 rfl 71 rfl ?_
            refine x_iadd dX12_at_71 72 rfl ?_
            obtain ⟨hin, h⟩ := h
            refine x_iaload dX12_at_72 (ly12_1 hk_l0) hin 73 rfl ?_
            refine x_bipush dX12_at_73 kb_100 75 rfl ?_
            refine x_isub dX12_at_75 76 rfl ?_
            refine x_goto dX12_at_76 82 rfl ?_
            exact x_iret dX12_at_82 h
          · have h := h.2 hc
            refine x_bipush dX12_at_59 kb_m100 61 rfl ?_
            refine x_goto dX12_at_61 82 rfl ?_
            exact x_iret dX12_at_82 h
      · have h := h.2 hc
        refine x_aload_n dX12_at_36 rfl 37 rfl ?_
        refine x_iload_n dX12_at_37 rfl 38 rfl ?_
        refine kX12_sitterOf dX12_at_38 41 rfl hk_l0 kw6_90 (Nat.le_of_ble_eq_true rfl) (Nat.le_of_ble_eq_true rfl) h (fun r3 h => ?_)
        exact x_iret dX12_at_41 h
    · have h := h.2 hc
      refine x_aload_n dX12_at_21 rfl 22 rfl ?_
      refine gf12_1 dX12_at_22 25 rfl hk_l0 kw5_160 ?_
      refine x_bipush dX12_at_25 kb_63 27 rfl ?_
      refine x_iload_n dX12_at_27 rfl 28 rfl ?_
      refine x_iadd dX12_at_28 29 rfl ?_
      obtain ⟨hin, h⟩ := h
      refine x_iaload dX12_at_29 (ly12_1 hk_l0) hin 30 rfl ?_
      exact x_iret dX12_at_30 h
  · have h := h.2 hc
    refine x_sipush dX12_at_13 kh_m200 16 rfl ?_
    exact x_iret dX12_at_16 h
theorem cX12_at_ {Q : Int32 → Mem → Prop} {l0 : Nat} {l1 : Int32} {l2 : Int32} {M : Mem} (hk_l0 : SHk l0 = 12) (h : FX12_at Q l0 l1 l2 M) : xM yX12_at cX12_at 3 (some .int) 2 [.ref l0, .int l1, .int l2] M (xQi Q) := xM_of (by decide +kernel) (Nat.le_of_ble_eq_true rfl) (eX12_at hk_l0 h)
theorem kX12_at {own : String} {cc : ByteArray} {nL : Nat} {rt : Option FieldType} {d pc ix : Nat} {L : List (Nat × Value)} {st : List Value} {M : Mem} {Rt : xGt → Array Value → State → Outcome → State → Prop} {Q : Int32 → Mem → Prop} {l0 : Nat} {l1 : Int32} {l2 : Int32} (hd : decode cc pc = .ok (.invokevirtual ix, 3)) (q : Nat) (hq : pc + 3 = q) (hk_l0 : SHk l0 = 12) (w1 : Cond.methodLink own ix yX12_at ∈ xTs) (hr : 2 < d) (hst : (st.map fun v => v.category).sum ≤ 8) (h : FX12_at Q l0 l1 l2 M) (k : ∀ (r : Int32) (N : Mem), Q r N → xX own cc nL rt d q L (.int r :: st) N Rt) : xX own cc nL rt d pc L (.int l2 :: .int l1 :: .ref l0 :: st) M Rt :=
  x_callV_i (n := 2) (As := [.int l1, .int l2]) hd q hq hk_l0 (by decide) rfl rfl w1 kw7_177 kw7_178 kw1_14 kw7_179 (by decide +kernel) rfl hr (by decide) hst _ rfl (cX12_at_ hk_l0 h) k
def FX12_sky (Q : Int32 → Mem → Prop) (l0 : Nat) (l1 : Int32) (M : Mem) : Prop :=
  ∀ M1 : Mem, M1 = xu M l0 0 0 → FX12_skyOf (fun (r2 : Int32) => Q r2 M1) l0 l1 M1
theorem eX12_sky {Q : Int32 → Mem → Prop} {l0 : Nat} {l1 : Int32} {M : Mem} (hk_l0 : SHk l0 = 12) (h : FX12_sky Q l0 l1 M) : xX RX12 cX12_sky 2 (some .int) 2 0 [(0, .ref l0), (1, .int l1)] [] M (xQi Q) := by
  unfold FX12_sky at h
  refine x_aload_n dX12_sky_0 rfl 1 rfl ?_
  refine x_iconst dX12_sky_1 kc_0 2 rfl ?_
  refine pf12_0 dX12_sky_2 5 rfl hk_l0 kw5_159 (x_mem (fun M1 hM1 => ?_))
  have h := h M1 hM1
  refine x_aload_n dX12_sky_5 rfl 6 rfl ?_
  refine x_iload_n dX12_sky_6 rfl 7 rfl ?_
  refine kX12_skyOf dX12_sky_7 10 rfl hk_l0 kw7_82 (Nat.le_of_ble_eq_true rfl) (Nat.le_of_ble_eq_true rfl) h (fun r2 h => ?_)
  exact x_iret dX12_sky_10 h
theorem cX12_sky_ {Q : Int32 → Mem → Prop} {l0 : Nat} {l1 : Int32} {M : Mem} (hk_l0 : SHk l0 = 12) (h : FX12_sky Q l0 l1 M) : xM yX12_sky cX12_sky 2 (some .int) 2 [.ref l0, .int l1] M (xQi Q) := xM_of (by decide +kernel) (Nat.le_of_ble_eq_true rfl) (eX12_sky hk_l0 h)
theorem kX12_sky {own : String} {cc : ByteArray} {nL : Nat} {rt : Option FieldType} {d pc ix : Nat} {L : List (Nat × Value)} {st : List Value} {M : Mem} {Rt : xGt → Array Value → State → Outcome → State → Prop} {Q : Int32 → Mem → Prop} {l0 : Nat} {l1 : Int32} (hd : decode cc pc = .ok (.invokevirtual ix, 3)) (q : Nat) (hq : pc + 3 = q) (hk_l0 : SHk l0 = 12) (w1 : Cond.methodLink own ix yX12_sky ∈ xTs) (hr : 2 < d) (hst : (st.map fun v => v.category).sum ≤ 8) (h : FX12_sky Q l0 l1 M) (k : ∀ (r : Int32) (N : Mem), Q r N → xX own cc nL rt d q L (.int r :: st) N Rt) : xX own cc nL rt d pc L (.int l1 :: .ref l0 :: st) M Rt :=
  x_callV_i (n := 1) (As := [.int l1]) hd q hq hk_l0 (by decide) rfl rfl w1 kw7_181 kw7_182 kw1_14 kw7_183 (by decide +kernel) rfl hr (by decide) hst _ rfl (cX12_sky_ hk_l0 h) k
def FX12_book (Q : Int32 → Mem → Prop) (l0 : Nat) (l1 : Int32) (l2 : Int32) (M : Mem) : Prop :=
  ∀ M1 : Mem, M1 = xu M l0 0 0 → FX12_isIn (fun (r2 : Bool) => ((r2 = false → Q (-100) M1) ∧ (r2 = true → FX12_isIn (fun (r3 : Bool) => ((r3 = false → Q (-100) M1) ∧ (r3 = true → vp_in ((4 * l1) + l2) 600 ∧ Q (M1 (l0 + 5) (ix ((4 * l1) + l2))) M1))) l0 l2 0 3 M1))) l0 l1 0 ((M1 (l0 + 1) 2) - 1) M1
theorem eX12_book {Q : Int32 → Mem → Prop} {l0 : Nat} {l1 : Int32} {l2 : Int32} {M : Mem} (hk_l0 : SHk l0 = 12) (h : FX12_book Q l0 l1 l2 M) : xX RX12 cX12_book 3 (some .int) 2 0 [(0, .ref l0), (1, .int l1), (2, .int l2)] [] M (xQi Q) := by
  unfold FX12_book at h
  refine x_aload_n dX12_book_0 rfl 1 rfl ?_
  refine x_iconst dX12_book_1 kc_0 2 rfl ?_
  refine pf12_0 dX12_book_2 5 rfl hk_l0 kw5_159 (x_mem (fun M1 hM1 => ?_))
  have h := h M1 hM1
  refine x_aload_n dX12_book_5 rfl 6 rfl ?_
  refine x_iload_n dX12_book_6 rfl 7 rfl ?_
  refine x_iconst dX12_book_7 kc_0 8 rfl ?_
  refine x_aload_n dX12_book_8 rfl 9 rfl ?_
  refine gf12_1 dX12_book_9 12 rfl hk_l0 kw5_160 ?_
  refine x_iconst dX12_book_12 kc_2 13 rfl ?_
  refine x_iaload dX12_book_13 (ly12_1 hk_l0) (by unfold vp_in; decide) 14 rfl ?_
  refine x_iconst dX12_book_14 kc_1 15 rfl ?_
  refine x_isub dX12_book_15 16 rfl ?_
  refine kX12_isIn dX12_book_16 19 rfl hk_l0 kw6_82 (Nat.le_of_ble_eq_true rfl) (Nat.le_of_ble_eq_true rfl) h (fun r2 h => ?_)
  refine x_if_eq_b dX12_book_19 45 22 rfl rfl (fun hc => ?_) (fun hc => ?_)
  · have h := h.1 hc
    refine x_bipush dX12_book_45 kb_m100 47 rfl ?_
    exact x_iret dX12_book_47 h
  · have h := h.2 hc
    refine x_aload_n dX12_book_22 rfl 23 rfl ?_
    refine x_iload_n dX12_book_23 rfl 24 rfl ?_
    refine x_iconst dX12_book_24 kc_0 25 rfl ?_
    refine x_iconst dX12_book_25 kc_3 26 rfl ?_
    refine kX12_isIn dX12_book_26 29 rfl hk_l0 kw6_82 (Nat.le_of_ble_eq_true rfl) (Nat.le_of_ble_eq_true rfl) h (fun r3 h => ?_)
    refine x_if_eq_b dX12_book_29 45 32 rfl rfl (fun hc => ?_) (fun hc => ?_)
    · have h := h.1 hc
      refine x_bipush dX12_book_45 kb_m100 47 rfl ?_
      exact x_iret dX12_book_47 h
    · have h := h.2 hc
      refine x_aload_n dX12_book_32 rfl 33 rfl ?_
      refine gf12_9 dX12_book_33 36 rfl hk_l0 kw5_168 ?_
      refine x_iconst dX12_book_36 kc_4 37 rfl ?_
      refine x_iload_n dX12_book_37 rfl 38 rfl ?_
      refine x_imul dX12_book_38 39 rfl ?_
      refine x_iload_n dX12_book_39 rfl 40 rfl ?_
      refine x_iadd dX12_book_40 41 rfl ?_
      obtain ⟨hin, h⟩ := h
      refine x_iaload dX12_book_41 (ly12_9 hk_l0) hin 42 rfl ?_
      refine x_goto dX12_book_42 47 rfl ?_
      exact x_iret dX12_book_47 h
theorem cX12_book_ {Q : Int32 → Mem → Prop} {l0 : Nat} {l1 : Int32} {l2 : Int32} {M : Mem} (hk_l0 : SHk l0 = 12) (h : FX12_book Q l0 l1 l2 M) : xM yX12_book cX12_book 3 (some .int) 2 [.ref l0, .int l1, .int l2] M (xQi Q) := xM_of (by decide +kernel) (Nat.le_of_ble_eq_true rfl) (eX12_book hk_l0 h)
theorem kX12_book {own : String} {cc : ByteArray} {nL : Nat} {rt : Option FieldType} {d pc ix : Nat} {L : List (Nat × Value)} {st : List Value} {M : Mem} {Rt : xGt → Array Value → State → Outcome → State → Prop} {Q : Int32 → Mem → Prop} {l0 : Nat} {l1 : Int32} {l2 : Int32} (hd : decode cc pc = .ok (.invokevirtual ix, 3)) (q : Nat) (hq : pc + 3 = q) (hk_l0 : SHk l0 = 12) (w1 : Cond.methodLink own ix yX12_book ∈ xTs) (hr : 2 < d) (hst : (st.map fun v => v.category).sum ≤ 8) (h : FX12_book Q l0 l1 l2 M) (k : ∀ (r : Int32) (N : Mem), Q r N → xX own cc nL rt d q L (.int r :: st) N Rt) : xX own cc nL rt d pc L (.int l2 :: .int l1 :: .ref l0 :: st) M Rt :=
  x_callV_i (n := 2) (As := [.int l1, .int l2]) hd q hq hk_l0 (by decide) rfl rfl w1 kw7_185 kw7_186 kw1_14 kw7_187 (by decide +kernel) rfl hr (by decide) hst _ rfl (cX12_book_ hk_l0 h) k
def lbX12_deadSet_4 (Q : Int32 → Prop) (l0 : Nat) (M : Mem) (B4 : Int32 → Int32 → Prop) (l1 : Int32) (l2 : Int32) : Prop :=
  (((M l0 7) ≤ l2 → Q l1) ∧ (¬ (M l0 7) ≤ l2 → vp_in (49 + l2) 107 ∧ ((¬ (M (l0 + 1) (ix (49 + l2))) = 1 → B4 l1 (l2 + 1)) ∧ ((M (l0 + 1) (ix (49 + l2))) = 1 → ∀ y1 : Int32, y1 = l1 ||| ((1 : Int32) <<< (l2 &&& 31)) → B4 y1 (l2 + 1)))))
def NX12_deadSet_4 (Q : Int32 → Prop) (l0 : Nat) (l1 : Int32) (l2 : Int32) (M : Mem) : Prop := xlp (fun (B : Int32 × Int32 → Prop) a => lbX12_deadSet_4 Q l0 M (fun l1 l2 => B (l1, l2)) a.1 a.2) (l1, l2)
theorem nX12_deadSet_4 {Q : Int32 → Prop} {l0 : Nat} {l1 : Int32} {l2 : Int32} {M : Mem} (hk_l0 : SHk l0 = 12) (h : NX12_deadSet_4 Q l0 l1 l2 M) : xX RX12 cX12_deadSet 3 (some .int) 1 4 [(0, .ref l0), (1, .int l1), (2, .int l2)] [] M (xQi (xP M Q)) := by
  obtain ⟨n, h⟩ := h
  have hB4 : ∀ (n : Nat) (l1 : Int32) (l2 : Int32), xlpn (fun (B : Int32 × Int32 → Prop) a => lbX12_deadSet_4 Q l0 M (fun l1 l2 => B (l1, l2)) a.1 a.2) n (l1, l2) → xX RX12 cX12_deadSet 3 (some .int) 1 4 [(0, .ref l0), (1, .int l1), (2, .int l2)] [] M (xQi (xP M Q)) := by
    intro n
    induction n with
    | zero => intro l1 l2 h; exact False.elim h
    | succ n ih =>
      intro l1 l2 h
      have hB4 := ih
      have h : lbX12_deadSet_4 Q l0 M (fun l1 l2 => xlpn (fun (B : Int32 × Int32 → Prop) a => lbX12_deadSet_4 Q l0 M (fun l1 l2 => B (l1, l2)) a.1 a.2) n (l1, l2)) l1 l2 := h
      unfold lbX12_deadSet_4 at h
      refine x_iload_n dX12_deadSet_4 rfl 5 rfl ?_
      refine x_aload_n dX12_deadSet_5 rfl 6 rfl ?_
      refine gf12_7 dX12_deadSet_6 9 rfl hk_l0 kw5_166 ?_
      refine x_icmp_ge dX12_deadSet_9 37 12 rfl rfl (fun hc => ?_) (fun hc => ?_)
      · have h := h.1 hc
        refine x_iload_n dX12_deadSet_37 rfl 38 rfl ?_
        exact x_iret dX12_deadSet_38 ⟨rfl, h⟩
      · have h := h.2 hc
        refine x_aload_n dX12_deadSet_12 rfl 13 rfl ?_
        refine gf12_1 dX12_deadSet_13 16 rfl hk_l0 kw5_160 ?_
        refine x_bipush dX12_deadSet_16 kb_49 18 rfl ?_
        refine x_iload_n dX12_deadSet_18 rfl 19 rfl ?_
        refine x_iadd dX12_deadSet_19 20 rfl ?_
        obtain ⟨hin, h⟩ := h
        refine x_iaload dX12_deadSet_20 (ly12_1 hk_l0) hin 21 rfl ?_
        refine x_iconst dX12_deadSet_21 kc_1 22 rfl ?_
        refine x_icmp_ne dX12_deadSet_22 31 25 rfl rfl (fun hc => ?_) (fun hc => ?_)
        · have h := h.1 hc
          refine x_iinc dX12_deadSet_31 rfl (congrArg (l2 + ·) kc_1) (Nat.le_of_ble_eq_true rfl) [(0, .ref l0), (1, .int l1), (2, .int (l2 + 1))] rfl 34 rfl ?_
          refine x_goto dX12_deadSet_34 4 rfl ?_
          exact hB4 _ _ h
        · have h := h.2 hc
          refine x_iload_n dX12_deadSet_25 rfl 26 rfl ?_
          refine x_iconst dX12_deadSet_26 kc_1 27 rfl ?_
          refine x_iload_n dX12_deadSet_27 rfl 28 rfl ?_
          refine x_ishl dX12_deadSet_28 29 rfl ?_
          refine x_ior dX12_deadSet_29 30 rfl ?_
          refine x_top (fun y1 hy1 => ?_)
          have h := h y1 hy1
          refine x_istore_n dX12_deadSet_30 (Nat.le_of_ble_eq_true rfl) [(0, .ref l0), (1, .int y1), (2, .int l2)] rfl 31 rfl ?_
          refine x_iinc dX12_deadSet_31 rfl (congrArg (l2 + ·) kc_1) (Nat.le_of_ble_eq_true rfl) [(0, .ref l0), (1, .int y1), (2, .int (l2 + 1))] rfl 34 rfl ?_
          refine x_goto dX12_deadSet_34 4 rfl ?_
          exact hB4 _ _ h
  exact hB4 n l1 l2 h
def FX12_deadSet (Q : Int32 → Prop) (l0 : Nat) (M : Mem) : Prop :=
  NX12_deadSet_4 Q l0 0 0 M
theorem eX12_deadSet {Q : Int32 → Prop} {l0 : Nat} {M : Mem} (hk_l0 : SHk l0 = 12) (h : FX12_deadSet Q l0 M) : xX RX12 cX12_deadSet 3 (some .int) 1 0 [(0, .ref l0)] [] M (xQi (xP M Q)) := by
  unfold FX12_deadSet at h
  refine x_iconst dX12_deadSet_0 kc_0 1 rfl ?_
  refine x_istore_n dX12_deadSet_1 (Nat.le_of_ble_eq_true rfl) [(0, .ref l0), (1, .int 0)] rfl 2 rfl ?_
  refine x_iconst dX12_deadSet_2 kc_0 3 rfl ?_
  refine x_istore_n dX12_deadSet_3 (Nat.le_of_ble_eq_true rfl) [(0, .ref l0), (1, .int 0), (2, .int 0)] rfl 4 rfl ?_
  exact nX12_deadSet_4 hk_l0 h
theorem cX12_deadSet_ {Q : Int32 → Prop} {l0 : Nat} {M : Mem} (hk_l0 : SHk l0 = 12) (h : FX12_deadSet Q l0 M) : xM yX12_deadSet cX12_deadSet 3 (some .int) 1 [.ref l0] M (xQi (xP M Q)) := xM_of (by decide +kernel) (Nat.le_of_ble_eq_true rfl) (eX12_deadSet hk_l0 h)
theorem kX12_deadSet {own : String} {cc : ByteArray} {nL : Nat} {rt : Option FieldType} {d pc ix : Nat} {L : List (Nat × Value)} {st : List Value} {M : Mem} {Rt : xGt → Array Value → State → Outcome → State → Prop} {Q : Int32 → Prop} {l0 : Nat} (hd : decode cc pc = .ok (.invokevirtual ix, 3)) (q : Nat) (hq : pc + 3 = q) (hk_l0 : SHk l0 = 12) (w1 : Cond.methodLink own ix yX12_deadSet ∈ xTs) (hr : 1 < d) (hst : (st.map fun v => v.category).sum ≤ 8) (h : FX12_deadSet Q l0 M) (k : ∀ (r : Int32), Q r → xX own cc nL rt d q L (.int r :: st) M Rt) : xX own cc nL rt d pc L (.ref l0 :: st) M Rt :=
  x_callV_i (n := 0) (As := []) hd q hq hk_l0 (by decide) rfl rfl w1 kw7_198 ks7_12 kw1_14 kw7_199 (by decide +kernel) rfl hr (by decide) hst _ rfl (cX12_deadSet_ hk_l0 h) (fun r N hN => by obtain ⟨rfl, hN⟩ := hN; exact k r hN)
def NX12_goes_163 (Q : Int32 → Mem → Prop) (l0 : Nat) (s0 : Int32) (M : Mem) : Prop :=
  FX12_endsThought (fun (M1 : Mem) => Q s0 M1) l0 M
theorem nX12_goes_163 {Q : Int32 → Mem → Prop} {l0 : Nat} {s0 : Int32} {M : Mem} (hk_l0 : SHk l0 = 12) (h : NX12_goes_163 Q l0 s0 M) : xX RX12 cX12_goes 6 (some .int) 9 163 [(0, .ref l0)] [.int s0] M (xQi Q) := by
  unfold NX12_goes_163 at h
  refine x_istore dX12_goes_163 (Nat.le_of_ble_eq_true rfl) [(0, .ref l0), (5, .int s0)] rfl 165 rfl ?_
  refine x_aload_n dX12_goes_165 rfl 166 rfl ?_
  refine kX12_endsThought dX12_goes_166 169 rfl hk_l0 kw7_204 (Nat.le_of_ble_eq_true rfl) (Nat.le_of_ble_eq_true rfl) h (fun M1 h => ?_)
  refine x_iload dX12_goes_169 rfl 171 rfl ?_
  exact x_iret dX12_goes_171 h
def NX12_goes_121 (Q : Int32 → Mem → Prop) (l0 : Nat) (l2 : Int32) (l3 : Int32) (s0 : Int32) (M : Mem) : Prop :=
  ((¬ l2 = 0 → ((¬ l2 = 1 → ((¬ l2 = 2 → NX12_goes_163 Q l0 s0 M) ∧ (l2 = 2 → NX12_goes_163 Q l0 l3 M))) ∧ (l2 = 1 → NX12_goes_163 Q l0 (M (l0 + 1) 4) M))) ∧ (l2 = 0 → FX12_deadSet (fun (r2 : Int32) => FX12_onesOf (fun (r3 : Int32) => NX12_goes_163 Q l0 r3 M) l0 r2 M) l0 M))
theorem nX12_goes_121 {Q : Int32 → Mem → Prop} {l0 : Nat} {l2 : Int32} {l3 : Int32} {s0 : Int32} {M : Mem} (hk_l0 : SHk l0 = 12) (h : NX12_goes_121 Q l0 l2 l3 s0 M) : xX RX12 cX12_goes 6 (some .int) 9 121 [(0, .ref l0), (2, .int l2), (3, .int l3)] [.int s0] M (xQi Q) := by
  unfold NX12_goes_121 at h
  refine x_istore dX12_goes_121 (Nat.le_of_ble_eq_true rfl) [(0, .ref l0), (2, .int l2), (3, .int l3), (4, .int s0)] rfl 123 rfl ?_
  refine x_iload_n dX12_goes_123 rfl 124 rfl ?_
  refine x_if_ne dX12_goes_124 138 127 rfl rfl (fun hc => ?_) (fun hc => ?_)
  · have h := h.1 hc
    refine x_iload_n dX12_goes_138 rfl 139 rfl ?_
    refine x_iconst dX12_goes_139 kc_1 140 rfl ?_
    refine x_icmp_ne dX12_goes_140 152 143 rfl rfl (fun hc => ?_) (fun hc => ?_)
    · have h := h.1 hc
      refine x_iload_n dX12_goes_152 rfl 153 rfl ?_
      refine x_iconst dX12_goes_153 kc_2 154 rfl ?_
      refine x_icmp_ne dX12_goes_154 161 157 rfl rfl (fun hc => ?_) (fun hc => ?_)
      · have h := h.1 hc
        refine x_iload dX12_goes_161 rfl 163 rfl ?_
        refine x_weak [(0, .ref l0)] [0] rfl ?_
        exact nX12_goes_163 hk_l0 h
      · have h := h.2 hc
        refine x_iload_n dX12_goes_157 rfl 158 rfl ?_
        refine x_goto dX12_goes_158 163 rfl ?_
        refine x_weak [(0, .ref l0)] [0] rfl ?_
        exact nX12_goes_163 hk_l0 h
    · have h := h.2 hc
      refine x_aload_n dX12_goes_143 rfl 144 rfl ?_
      refine gf12_1 dX12_goes_144 147 rfl hk_l0 kw5_160 ?_
      refine x_iconst dX12_goes_147 kc_4 148 rfl ?_
      refine x_iaload dX12_goes_148 (ly12_1 hk_l0) (by unfold vp_in; decide) 149 rfl ?_
      refine x_goto dX12_goes_149 163 rfl ?_
      refine x_weak [(0, .ref l0)] [0] rfl ?_
      exact nX12_goes_163 hk_l0 h
  · have h := h.2 hc
    refine x_aload_n dX12_goes_127 rfl 128 rfl ?_
    refine x_aload_n dX12_goes_128 rfl 129 rfl ?_
    refine kX12_deadSet dX12_goes_129 132 rfl hk_l0 kw7_196 (Nat.le_of_ble_eq_true rfl) (Nat.le_of_ble_eq_true rfl) h (fun r2 h => ?_)
    refine kX12_onesOf dX12_goes_132 135 rfl hk_l0 kw7_200 (Nat.le_of_ble_eq_true rfl) (Nat.le_of_ble_eq_true rfl) h (fun r3 h => ?_)
    refine x_goto dX12_goes_135 163 rfl ?_
    refine x_weak [(0, .ref l0)] [0] rfl ?_
    exact nX12_goes_163 hk_l0 h
def lbX12_goes_56 (Q : Int32 → Mem → Prop) (l0 : Nat) (l2 : Int32) (M : Mem) (B56 : Int32 → Int32 → Prop) (l3 : Int32) (l4 : Int32) : Prop :=
  (((M l0 7) ≤ l4 → ((¬ (M (l0 + 1) 83) = 0 → NX12_goes_121 Q l0 l2 l3 ((M (l0 + 1) 83) - 100) M) ∧ ((M (l0 + 1) 83) = 0 → NX12_goes_121 Q l0 l2 l3 0 M))) ∧ (¬ (M l0 7) ≤ l4 → vp_in (49 + l4) 107 ∧ ((¬ (M (l0 + 1) (ix (49 + l4))) = 0 → B56 l3 (l4 + 1)) ∧ ((M (l0 + 1) (ix (49 + l4))) = 0 → vp_in (35 + l4) 107 ∧ ∀ y4 : Int32, y4 = l3 + (M (l0 + 1) (ix (35 + l4))) → B56 y4 (l4 + 1)))))
def NX12_goes_56 (Q : Int32 → Mem → Prop) (l0 : Nat) (l2 : Int32) (l3 : Int32) (l4 : Int32) (M : Mem) : Prop := xlp (fun (B : Int32 × Int32 → Prop) a => lbX12_goes_56 Q l0 l2 M (fun l3 l4 => B (l3, l4)) a.1 a.2) (l3, l4)
theorem nX12_goes_56 {Q : Int32 → Mem → Prop} {l0 : Nat} {l2 : Int32} {l3 : Int32} {l4 : Int32} {M : Mem} (hk_l0 : SHk l0 = 12) (h : NX12_goes_56 Q l0 l2 l3 l4 M) : xX RX12 cX12_goes 6 (some .int) 9 56 [(0, .ref l0), (2, .int l2), (3, .int l3), (4, .int l4)] [] M (xQi Q) := by
  obtain ⟨n, h⟩ := h
  have hB56 : ∀ (n : Nat) (l3 : Int32) (l4 : Int32), xlpn (fun (B : Int32 × Int32 → Prop) a => lbX12_goes_56 Q l0 l2 M (fun l3 l4 => B (l3, l4)) a.1 a.2) n (l3, l4) → xX RX12 cX12_goes 6 (some .int) 9 56 [(0, .ref l0), (2, .int l2), (3, .int l3), (4, .int l4)] [] M (xQi Q) := by
    intro n
    induction n with
    | zero => intro l3 l4 h; exact False.elim h
    | succ n ih =>
      intro l3 l4 h
      have hB56 := ih
      have h : lbX12_goes_56 Q l0 l2 M (fun l3 l4 => xlpn (fun (B : Int32 × Int32 → Prop) a => lbX12_goes_56 Q l0 l2 M (fun l3 l4 => B (l3, l4)) a.1 a.2) n (l3, l4)) l3 l4 := h
      unfold lbX12_goes_56 at h
      refine x_iload dX12_goes_56 rfl 58 rfl ?_
      refine x_aload_n dX12_goes_58 rfl 59 rfl ?_
      refine gf12_7 dX12_goes_59 62 rfl hk_l0 kw5_166 ?_
      refine x_icmp_ge dX12_goes_62 97 65 rfl rfl (fun hc => ?_) (fun hc => ?_)
      · have h := h.1 hc
        refine x_aload_n dX12_goes_97 rfl 98 rfl ?_
        refine gf12_1 dX12_goes_98 101 rfl hk_l0 kw5_160 ?_
        refine x_bipush dX12_goes_101 kb_83 103 rfl ?_
        refine x_iaload dX12_goes_103 (ly12_1 hk_l0) (by unfold vp_in; decide) 104 rfl ?_
        refine x_if_ne dX12_goes_104 111 107 rfl rfl (fun hc => ?_) (fun hc => ?_)
        · have h := h.1 hc
          refine x_aload_n dX12_goes_111 rfl 112 rfl ?_
          refine gf12_1 dX12_goes_112 115 rfl hk_l0 kw5_160 ?_
          refine x_bipush dX12_goes_115 kb_83 117 rfl ?_
          refine x_iaload dX12_goes_117 (ly12_1 hk_l0) (by unfold vp_in; decide) 118 rfl ?_
          refine x_bipush dX12_goes_118 kb_100 120 rfl ?_
          refine x_isub dX12_goes_120 121 rfl ?_
          refine x_weak [(0, .ref l0), (2, .int l2), (3, .int l3)] [0, 1, 2] rfl ?_
          exact nX12_goes_121 hk_l0 h
        · have h := h.2 hc
          refine x_iconst dX12_goes_107 kc_0 108 rfl ?_
          refine x_goto dX12_goes_108 121 rfl ?_
          refine x_weak [(0, .ref l0), (2, .int l2), (3, .int l3)] [0, 1, 2] rfl ?_
          exact nX12_goes_121 hk_l0 h
      · have h := h.2 hc
        refine x_aload_n dX12_goes_65 rfl 66 rfl ?_
        refine gf12_1 dX12_goes_66 69 rfl hk_l0 kw5_160 ?_
        refine x_bipush dX12_goes_69 kb_49 71 rfl ?_
        refine x_iload dX12_goes_71 rfl 73 rfl ?_
        refine x_iadd dX12_goes_73 74 rfl ?_
        obtain ⟨hin, h⟩ := h
        refine x_iaload dX12_goes_74 (ly12_1 hk_l0) hin 75 rfl ?_
        refine x_if_ne dX12_goes_75 91 78 rfl rfl (fun hc => ?_) (fun hc => ?_)
        · have h := h.1 hc
          refine x_iinc dX12_goes_91 rfl (congrArg (l4 + ·) kc_1) (Nat.le_of_ble_eq_true rfl) [(0, .ref l0), (2, .int l2), (3, .int l3), (4, .int (l4 + 1))] rfl 94 rfl ?_
          refine x_goto dX12_goes_94 56 rfl ?_
          exact hB56 _ _ h
        · have h := h.2 hc
          refine x_iload_n dX12_goes_78 rfl 79 rfl ?_
          refine x_aload_n dX12_goes_79 rfl 80 rfl ?_
          refine gf12_1 dX12_goes_80 83 rfl hk_l0 kw5_160 ?_
          refine x_bipush dX12_goes_83 kb_35 85 rfl ?_
          refine x_iload dX12_goes_85 rfl 87 rfl ?_
          refine x_iadd dX12_goes_87 88 rfl ?_
          obtain ⟨hin, h⟩ := h
          refine x_iaload dX12_goes_88 (ly12_1 hk_l0) hin 89 rfl ?_
          refine x_iadd dX12_goes_89 90 rfl ?_
          refine x_top (fun y4 hy4 => ?_)
          have h := h y4 hy4
          refine x_istore_n dX12_goes_90 (Nat.le_of_ble_eq_true rfl) [(0, .ref l0), (2, .int l2), (3, .int y4), (4, .int l4)] rfl 91 rfl ?_
          refine x_iinc dX12_goes_91 rfl (congrArg (l4 + ·) kc_1) (Nat.le_of_ble_eq_true rfl) [(0, .ref l0), (2, .int l2), (3, .int y4), (4, .int (l4 + 1))] rfl 94 rfl ?_
          refine x_goto dX12_goes_94 56 rfl ?_
          exact hB56 _ _ h
  exact hB56 n l3 l4 h
def lbX12_goes_35 (Q : Int32 → Mem → Prop) (l0 : Nat) (l1 : Int32) (l2 : Int32) (B35 : Int32 → Mem → Prop) (l3 : Int32) (M : Mem) : Prop :=
  ((l1 ≤ l3 → NX12_goes_56 Q l0 l2 0 0 M) ∧ (¬ l1 ≤ l3 → FX12_goesBy (fun (r6 : Int32) (M5 : Mem) => B35 (l3 + 1) M5) l0 M))
def NX12_goes_35 (Q : Int32 → Mem → Prop) (l0 : Nat) (l1 : Int32) (l2 : Int32) (l3 : Int32) (M : Mem) : Prop := xlp (fun (B : Int32 × Mem → Prop) a => lbX12_goes_35 Q l0 l1 l2 (fun l3 M => B (l3, M)) a.1 a.2) (l3, M)
theorem nX12_goes_35 {Q : Int32 → Mem → Prop} {l0 : Nat} {l1 : Int32} {l2 : Int32} {l3 : Int32} {M : Mem} (hk_l0 : SHk l0 = 12) (h : NX12_goes_35 Q l0 l1 l2 l3 M) : xX RX12 cX12_goes 6 (some .int) 9 35 [(0, .ref l0), (1, .int l1), (2, .int l2), (3, .int l3)] [] M (xQi Q) := by
  obtain ⟨n, h⟩ := h
  have hB35 : ∀ (n : Nat) (l3 : Int32) (M : Mem), xlpn (fun (B : Int32 × Mem → Prop) a => lbX12_goes_35 Q l0 l1 l2 (fun l3 M => B (l3, M)) a.1 a.2) n (l3, M) → xX RX12 cX12_goes 6 (some .int) 9 35 [(0, .ref l0), (1, .int l1), (2, .int l2), (3, .int l3)] [] M (xQi Q) := by
    intro n
    induction n with
    | zero => intro l3 M h; exact False.elim h
    | succ n ih =>
      intro l3 M h
      have hB35 := ih
      have h : lbX12_goes_35 Q l0 l1 l2 (fun l3 M => xlpn (fun (B : Int32 × Mem → Prop) a => lbX12_goes_35 Q l0 l1 l2 (fun l3 M => B (l3, M)) a.1 a.2) n (l3, M)) l3 M := h
      unfold lbX12_goes_35 at h
      refine x_iload_n dX12_goes_35 rfl 36 rfl ?_
      refine x_iload_n dX12_goes_36 rfl 37 rfl ?_
      refine x_icmp_ge dX12_goes_37 51 40 rfl rfl (fun hc => ?_) (fun hc => ?_)
      · have h := h.1 hc
        refine x_iconst dX12_goes_51 kc_0 52 rfl ?_
        refine x_istore_n dX12_goes_52 (Nat.le_of_ble_eq_true rfl) [(0, .ref l0), (1, .int l1), (2, .int l2), (3, .int 0)] rfl 53 rfl ?_
        refine x_iconst dX12_goes_53 kc_0 54 rfl ?_
        refine x_istore dX12_goes_54 (Nat.le_of_ble_eq_true rfl) [(0, .ref l0), (1, .int l1), (2, .int l2), (3, .int 0), (4, .int 0)] rfl 56 rfl ?_
        refine x_weak [(0, .ref l0), (2, .int l2), (3, .int 0), (4, .int 0)] [0, 2, 3, 4] rfl ?_
        exact nX12_goes_56 hk_l0 h
      · have h := h.2 hc
        refine x_aload_n dX12_goes_40 rfl 41 rfl ?_
        refine kX12_goesBy dX12_goes_41 44 rfl hk_l0 kw7_74 (Nat.le_of_ble_eq_true rfl) (Nat.le_of_ble_eq_true rfl) h (fun r6 M5 h => ?_)
        refine x_pop dX12_goes_44 rfl 45 rfl ?_
        refine x_iinc dX12_goes_45 rfl (congrArg (l3 + ·) kc_1) (Nat.le_of_ble_eq_true rfl) [(0, .ref l0), (1, .int l1), (2, .int l2), (3, .int (l3 + 1))] rfl 48 rfl ?_
        refine x_goto dX12_goes_48 35 rfl ?_
        exact hB35 _ _ h
  exact hB35 n l3 M h
def FX12_goes (Q : Int32 → Mem → Prop) (l0 : Nat) (l1 : Int32) (l2 : Int32) (M : Mem) : Prop :=
  ∀ M7 : Mem, M7 = xu M l0 0 0 → FX12_isIn (fun (r8 : Bool) => ((r8 = false → Q (-100) M7) ∧ (r8 = true → FX12_isIn (fun (r9 : Bool) => ((r9 = true → FX12_thinks (fun (M10 : Mem) => NX12_goes_35 Q l0 l1 l2 0 M10) l0 M7) ∧ (r9 = false → Q (-100) M7))) l0 l2 0 3 M7))) l0 l1 1 60 M7
theorem eX12_goes {Q : Int32 → Mem → Prop} {l0 : Nat} {l1 : Int32} {l2 : Int32} {M : Mem} (hk_l0 : SHk l0 = 12) (h : FX12_goes Q l0 l1 l2 M) : xX RX12 cX12_goes 6 (some .int) 9 0 [(0, .ref l0), (1, .int l1), (2, .int l2)] [] M (xQi Q) := by
  unfold FX12_goes at h
  refine x_aload_n dX12_goes_0 rfl 1 rfl ?_
  refine x_iconst dX12_goes_1 kc_0 2 rfl ?_
  refine pf12_0 dX12_goes_2 5 rfl hk_l0 kw5_159 (x_mem (fun M7 hM7 => ?_))
  have h := h M7 hM7
  refine x_aload_n dX12_goes_5 rfl 6 rfl ?_
  refine x_iload_n dX12_goes_6 rfl 7 rfl ?_
  refine x_iconst dX12_goes_7 kc_1 8 rfl ?_
  refine x_bipush dX12_goes_8 kb_60 10 rfl ?_
  refine kX12_isIn dX12_goes_10 13 rfl hk_l0 kw6_82 (Nat.le_of_ble_eq_true rfl) (Nat.le_of_ble_eq_true rfl) h (fun r8 h => ?_)
  refine x_if_eq_b dX12_goes_13 26 16 rfl rfl (fun hc => ?_) (fun hc => ?_)
  · have h := h.1 hc
    refine x_bipush dX12_goes_26 kb_m100 28 rfl ?_
    exact x_iret dX12_goes_28 h
  · have h := h.2 hc
    refine x_aload_n dX12_goes_16 rfl 17 rfl ?_
    refine x_iload_n dX12_goes_17 rfl 18 rfl ?_
    refine x_iconst dX12_goes_18 kc_0 19 rfl ?_
    refine x_iconst dX12_goes_19 kc_3 20 rfl ?_
    refine kX12_isIn dX12_goes_20 23 rfl hk_l0 kw6_82 (Nat.le_of_ble_eq_true rfl) (Nat.le_of_ble_eq_true rfl) h (fun r9 h => ?_)
    refine x_if_ne_b dX12_goes_23 29 26 rfl rfl (fun hc => ?_) (fun hc => ?_)
    · have h := h.1 hc
      refine x_aload_n dX12_goes_29 rfl 30 rfl ?_
      refine kX12_thinks dX12_goes_30 33 rfl hk_l0 kw7_192 (Nat.le_of_ble_eq_true rfl) (Nat.le_of_ble_eq_true rfl) h (fun M10 h => ?_)
      refine x_iconst dX12_goes_33 kc_0 34 rfl ?_
      refine x_istore_n dX12_goes_34 (Nat.le_of_ble_eq_true rfl) [(0, .ref l0), (1, .int l1), (2, .int l2), (3, .int 0)] rfl 35 rfl ?_
      exact nX12_goes_35 hk_l0 h
    · have h := h.2 hc
      refine x_bipush dX12_goes_26 kb_m100 28 rfl ?_
      exact x_iret dX12_goes_28 h
theorem cX12_goes_ {Q : Int32 → Mem → Prop} {l0 : Nat} {l1 : Int32} {l2 : Int32} {M : Mem} (hk_l0 : SHk l0 = 12) (h : FX12_goes Q l0 l1 l2 M) : xM yX12_goes cX12_goes 6 (some .int) 9 [.ref l0, .int l1, .int l2] M (xQi Q) := xM_of (by decide +kernel) (Nat.le_of_ble_eq_true rfl) (eX12_goes hk_l0 h)
theorem kX12_goes {own : String} {cc : ByteArray} {nL : Nat} {rt : Option FieldType} {d pc ix : Nat} {L : List (Nat × Value)} {st : List Value} {M : Mem} {Rt : xGt → Array Value → State → Outcome → State → Prop} {Q : Int32 → Mem → Prop} {l0 : Nat} {l1 : Int32} {l2 : Int32} (hd : decode cc pc = .ok (.invokevirtual ix, 3)) (q : Nat) (hq : pc + 3 = q) (hk_l0 : SHk l0 = 12) (w1 : Cond.methodLink own ix yX12_goes ∈ xTs) (hr : 9 < d) (hst : (st.map fun v => v.category).sum ≤ 8) (h : FX12_goes Q l0 l1 l2 M) (k : ∀ (r : Int32) (N : Mem), Q r N → xX own cc nL rt d q L (.int r :: st) N Rt) : xX own cc nL rt d pc L (.int l2 :: .int l1 :: .ref l0 :: st) M Rt :=
  x_callV_i (n := 2) (As := [.int l1, .int l2]) hd q hq hk_l0 (by decide) rfl rfl w1 kw7_189 kw7_190 kw1_14 kw7_191 (by decide +kernel) rfl hr (by decide) hst _ rfl (cX12_goes_ hk_l0 h) k
def lbX12_loaves_9 (Q : Int32 → Mem → Prop) (l0 : Nat) (B9 : Int32 → Int32 → Mem → Prop) (l1 : Int32) (l2 : Int32) (M : Mem) : Prop :=
  (((M l0 6) ≤ l2 → Q l1 M) ∧ (¬ (M l0 6) ≤ l2 → FX12_sitterOf (fun (r1 : Int32) => ((r1 = (-1) → B9 l1 (l2 + 1) M) ∧ (¬ r1 = (-1) → FX12_sitterOf (fun (r2 : Int32) => FX12_eatsOf (fun (r4 : Int32) (M3 : Mem) => B9 (l1 + r4) (l2 + 1) M3) l0 r2 M) l0 l2 M))) l0 l2 M))
def NX12_loaves_9 (Q : Int32 → Mem → Prop) (l0 : Nat) (l1 : Int32) (l2 : Int32) (M : Mem) : Prop := xlp (fun (B : Int32 × Int32 × Mem → Prop) a => lbX12_loaves_9 Q l0 (fun l1 l2 M => B (l1, l2, M)) a.1 a.2.1 a.2.2) (l1, l2, M)
theorem nX12_loaves_9 {Q : Int32 → Mem → Prop} {l0 : Nat} {l1 : Int32} {l2 : Int32} {M : Mem} (hk_l0 : SHk l0 = 12) (h : NX12_loaves_9 Q l0 l1 l2 M) : xX RX12 cX12_loaves 3 (some .int) 6 9 [(0, .ref l0), (1, .int l1), (2, .int l2)] [] M (xQi Q) := by
  obtain ⟨n, h⟩ := h
  have hB9 : ∀ (n : Nat) (l1 : Int32) (l2 : Int32) (M : Mem), xlpn (fun (B : Int32 × Int32 × Mem → Prop) a => lbX12_loaves_9 Q l0 (fun l1 l2 M => B (l1, l2, M)) a.1 a.2.1 a.2.2) n (l1, l2, M) → xX RX12 cX12_loaves 3 (some .int) 6 9 [(0, .ref l0), (1, .int l1), (2, .int l2)] [] M (xQi Q) := by
    intro n
    induction n with
    | zero => intro l1 l2 M h; exact False.elim h
    | succ n ih =>
      intro l1 l2 M h
      have hB9 := ih
      have h : lbX12_loaves_9 Q l0 (fun l1 l2 M => xlpn (fun (B : Int32 × Int32 × Mem → Prop) a => lbX12_loaves_9 Q l0 (fun l1 l2 M => B (l1, l2, M)) a.1 a.2.1 a.2.2) n (l1, l2, M)) l1 l2 M := h
      unfold lbX12_loaves_9 at h
      refine x_iload_n dX12_loaves_9 rfl 10 rfl ?_
      refine x_aload_n dX12_loaves_10 rfl 11 rfl ?_
      refine gf12_6 dX12_loaves_11 14 rfl hk_l0 kw5_165 ?_
      refine x_icmp_ge dX12_loaves_14 44 17 rfl rfl (fun hc => ?_) (fun hc => ?_)
      · have h := h.1 hc
        refine x_iload_n dX12_loaves_44 rfl 45 rfl ?_
        exact x_iret dX12_loaves_45 h
      · have h := h.2 hc
        refine x_aload_n dX12_loaves_17 rfl 18 rfl ?_
        refine x_iload_n dX12_loaves_18 rfl 19 rfl ?_
        refine kX12_sitterOf dX12_loaves_19 22 rfl hk_l0 kw6_90 (Nat.le_of_ble_eq_true rfl) (Nat.le_of_ble_eq_true rfl) h (fun r1 h => ?_)
        refine x_iconst dX12_loaves_22 kc_m1 23 rfl ?_
        refine x_icmp_eq dX12_loaves_23 38 26 rfl rfl (fun hc => ?_) (fun hc => ?_)
        · have h := h.1 hc
          refine x_iinc dX12_loaves_38 rfl (congrArg (l2 + ·) kc_1) (Nat.le_of_ble_eq_true rfl) [(0, .ref l0), (1, .int l1), (2, .int (l2 + 1))] rfl 41 rfl ?_
          refine x_goto dX12_loaves_41 9 rfl ?_
          exact hB9 _ _ _ h
        · have h := h.2 hc
          refine x_iload_n dX12_loaves_26 rfl 27 rfl ?_
          refine x_aload_n dX12_loaves_27 rfl 28 rfl ?_
          refine x_aload_n dX12_loaves_28 rfl 29 rfl ?_
          refine x_iload_n dX12_loaves_29 rfl 30 rfl ?_
          refine kX12_sitterOf dX12_loaves_30 33 rfl hk_l0 kw6_90 (Nat.le_of_ble_eq_true rfl) (Nat.le_of_ble_eq_true rfl) h (fun r2 h => ?_)
          refine kX12_eatsOf dX12_loaves_33 36 rfl hk_l0 kw7_94 (Nat.le_of_ble_eq_true rfl) (Nat.le_of_ble_eq_true rfl) h (fun r4 M3 h => ?_)
          refine x_iadd dX12_loaves_36 37 rfl ?_
          refine x_istore_n dX12_loaves_37 (Nat.le_of_ble_eq_true rfl) [(0, .ref l0), (1, .int (l1 + r4)), (2, .int l2)] rfl 38 rfl ?_
          refine x_iinc dX12_loaves_38 rfl (congrArg (l2 + ·) kc_1) (Nat.le_of_ble_eq_true rfl) [(0, .ref l0), (1, .int (l1 + r4)), (2, .int (l2 + 1))] rfl 41 rfl ?_
          refine x_goto dX12_loaves_41 9 rfl ?_
          exact hB9 _ _ _ h
  exact hB9 n l1 l2 M h
def FX12_loaves (Q : Int32 → Mem → Prop) (l0 : Nat) (M : Mem) : Prop :=
  ∀ M5 : Mem, M5 = xu M l0 0 0 → NX12_loaves_9 Q l0 0 0 M5
theorem eX12_loaves {Q : Int32 → Mem → Prop} {l0 : Nat} {M : Mem} (hk_l0 : SHk l0 = 12) (h : FX12_loaves Q l0 M) : xX RX12 cX12_loaves 3 (some .int) 6 0 [(0, .ref l0)] [] M (xQi Q) := by
  unfold FX12_loaves at h
  refine x_aload_n dX12_loaves_0 rfl 1 rfl ?_
  refine x_iconst dX12_loaves_1 kc_0 2 rfl ?_
  refine pf12_0 dX12_loaves_2 5 rfl hk_l0 kw5_159 (x_mem (fun M5 hM5 => ?_))
  have h := h M5 hM5
  refine x_iconst dX12_loaves_5 kc_0 6 rfl ?_
  refine x_istore_n dX12_loaves_6 (Nat.le_of_ble_eq_true rfl) [(0, .ref l0), (1, .int 0)] rfl 7 rfl ?_
  refine x_iconst dX12_loaves_7 kc_0 8 rfl ?_
  refine x_istore_n dX12_loaves_8 (Nat.le_of_ble_eq_true rfl) [(0, .ref l0), (1, .int 0), (2, .int 0)] rfl 9 rfl ?_
  exact nX12_loaves_9 hk_l0 h
theorem cX12_loaves_ {Q : Int32 → Mem → Prop} {l0 : Nat} {M : Mem} (hk_l0 : SHk l0 = 12) (h : FX12_loaves Q l0 M) : xM yX12_loaves cX12_loaves 3 (some .int) 6 [.ref l0] M (xQi Q) := xM_of (by decide +kernel) (Nat.le_of_ble_eq_true rfl) (eX12_loaves hk_l0 h)
theorem kX12_loaves {own : String} {cc : ByteArray} {nL : Nat} {rt : Option FieldType} {d pc ix : Nat} {L : List (Nat × Value)} {st : List Value} {M : Mem} {Rt : xGt → Array Value → State → Outcome → State → Prop} {Q : Int32 → Mem → Prop} {l0 : Nat} (hd : decode cc pc = .ok (.invokevirtual ix, 3)) (q : Nat) (hq : pc + 3 = q) (hk_l0 : SHk l0 = 12) (w1 : Cond.methodLink own ix yX12_loaves ∈ xTs) (hr : 6 < d) (hst : (st.map fun v => v.category).sum ≤ 8) (h : FX12_loaves Q l0 M) (k : ∀ (r : Int32) (N : Mem), Q r N → xX own cc nL rt d q L (.int r :: st) N Rt) : xX own cc nL rt d pc L (.ref l0 :: st) M Rt :=
  x_callV_i (n := 0) (As := []) hd q hq hk_l0 (by decide) rfl rfl w1 kw7_209 kw7_210 kw1_14 kw7_211 (by decide +kernel) rfl hr (by decide) hst _ rfl (cX12_loaves_ hk_l0 h) k
def NX12_heir_79 (Q : Int32 → Mem → Prop) (l0 : Nat) (s0 : Int32) (M : Mem) : Prop :=
  FX12_endsThought (fun (M1 : Mem) => Q s0 M1) l0 M
theorem nX12_heir_79 {Q : Int32 → Mem → Prop} {l0 : Nat} {s0 : Int32} {M : Mem} (hk_l0 : SHk l0 = 12) (h : NX12_heir_79 Q l0 s0 M) : xX RX12 cX12_heir 3 (some .int) 4 79 [(0, .ref l0)] [.int s0] M (xQi Q) := by
  unfold NX12_heir_79 at h
  refine x_istore_n dX12_heir_79 (Nat.le_of_ble_eq_true rfl) [(0, .ref l0), (2, .int s0)] rfl 80 rfl ?_
  refine x_aload_n dX12_heir_80 rfl 81 rfl ?_
  refine kX12_endsThought dX12_heir_81 84 rfl hk_l0 kw7_204 (Nat.le_of_ble_eq_true rfl) (Nat.le_of_ble_eq_true rfl) h (fun M1 h => ?_)
  refine x_iload_n dX12_heir_84 rfl 85 rfl ?_
  exact x_iret dX12_heir_85 h
def NX12_heir_59 (Q : Int32 → Mem → Prop) (l0 : Nat) (M : Mem) : Prop :=
  FX12_highest (fun (r2 : Int32) => ((¬ r2 = (-1) → FX12_highest (fun (r3 : Int32) => FX12_sitterOf (fun (r4 : Int32) => NX12_heir_79 Q l0 r4 M) l0 r3 M) l0 M) ∧ (r2 = (-1) → NX12_heir_79 Q l0 (-1) M))) l0 M
theorem nX12_heir_59 {Q : Int32 → Mem → Prop} {l0 : Nat} {M : Mem} (hk_l0 : SHk l0 = 12) (h : NX12_heir_59 Q l0 M) : xX RX12 cX12_heir 3 (some .int) 4 59 [(0, .ref l0)] [] M (xQi Q) := by
  unfold NX12_heir_59 at h
  refine x_aload_n dX12_heir_59 rfl 60 rfl ?_
  refine kX12_highest dX12_heir_60 63 rfl hk_l0 kw7_42 (Nat.le_of_ble_eq_true rfl) (Nat.le_of_ble_eq_true rfl) h (fun r2 h => ?_)
  refine x_iconst dX12_heir_63 kc_m1 64 rfl ?_
  refine x_icmp_ne dX12_heir_64 71 67 rfl rfl (fun hc => ?_) (fun hc => ?_)
  · have h := h.1 hc
    refine x_aload_n dX12_heir_71 rfl 72 rfl ?_
    refine x_aload_n dX12_heir_72 rfl 73 rfl ?_
    refine kX12_highest dX12_heir_73 76 rfl hk_l0 kw7_42 (Nat.le_of_ble_eq_true rfl) (Nat.le_of_ble_eq_true rfl) h (fun r3 h => ?_)
    refine kX12_sitterOf dX12_heir_76 79 rfl hk_l0 kw6_90 (Nat.le_of_ble_eq_true rfl) (Nat.le_of_ble_eq_true rfl) h (fun r4 h => ?_)
    exact nX12_heir_79 hk_l0 h
  · have h := h.2 hc
    refine x_iconst dX12_heir_67 kc_m1 68 rfl ?_
    refine x_goto dX12_heir_68 79 rfl ?_
    exact nX12_heir_79 hk_l0 h
def lbX12_heir_24 (Q : Int32 → Mem → Prop) (l0 : Nat) (l1 : Int32) (B24 : Int32 → Mem → Prop) (l2 : Int32) (M : Mem) : Prop :=
  ((l1 ≤ l2 → NX12_heir_59 Q l0 M) ∧ (¬ l1 ≤ l2 → FX12_highest (fun (r5 : Int32) => ((r5 = (-1) → NX12_heir_59 Q l0 M) ∧ (¬ r5 = (-1) → FX12_highest (fun (r6 : Int32) => FX12_sitterOf (fun (r7 : Int32) => FX12_dies (fun (M8 : Mem) => FX12_allClimb (fun (M9 : Mem) => B24 (l2 + 1) M9) l0 M8) l0 r7 M) l0 r6 M) l0 M))) l0 M))
def NX12_heir_24 (Q : Int32 → Mem → Prop) (l0 : Nat) (l1 : Int32) (l2 : Int32) (M : Mem) : Prop := xlp (fun (B : Int32 × Mem → Prop) a => lbX12_heir_24 Q l0 l1 (fun l2 M => B (l2, M)) a.1 a.2) (l2, M)
theorem nX12_heir_24 {Q : Int32 → Mem → Prop} {l0 : Nat} {l1 : Int32} {l2 : Int32} {M : Mem} (hk_l0 : SHk l0 = 12) (h : NX12_heir_24 Q l0 l1 l2 M) : xX RX12 cX12_heir 3 (some .int) 4 24 [(0, .ref l0), (1, .int l1), (2, .int l2)] [] M (xQi Q) := by
  obtain ⟨n, h⟩ := h
  have hB24 : ∀ (n : Nat) (l2 : Int32) (M : Mem), xlpn (fun (B : Int32 × Mem → Prop) a => lbX12_heir_24 Q l0 l1 (fun l2 M => B (l2, M)) a.1 a.2) n (l2, M) → xX RX12 cX12_heir 3 (some .int) 4 24 [(0, .ref l0), (1, .int l1), (2, .int l2)] [] M (xQi Q) := by
    intro n
    induction n with
    | zero => intro l2 M h; exact False.elim h
    | succ n ih =>
      intro l2 M h
      have hB24 := ih
      have h : lbX12_heir_24 Q l0 l1 (fun l2 M => xlpn (fun (B : Int32 × Mem → Prop) a => lbX12_heir_24 Q l0 l1 (fun l2 M => B (l2, M)) a.1 a.2) n (l2, M)) l2 M := h
      unfold lbX12_heir_24 at h
      refine x_iload_n dX12_heir_24 rfl 25 rfl ?_
      refine x_iload_n dX12_heir_25 rfl 26 rfl ?_
      refine x_icmp_ge dX12_heir_26 59 29 rfl rfl (fun hc => ?_) (fun hc => ?_)
      · have h := h.1 hc
        refine x_weak [(0, .ref l0)] [0] rfl ?_
        exact nX12_heir_59 hk_l0 h
      · have h := h.2 hc
        refine x_aload_n dX12_heir_29 rfl 30 rfl ?_
        refine kX12_highest dX12_heir_30 33 rfl hk_l0 kw7_42 (Nat.le_of_ble_eq_true rfl) (Nat.le_of_ble_eq_true rfl) h (fun r5 h => ?_)
        refine x_iconst dX12_heir_33 kc_m1 34 rfl ?_
        refine x_icmp_eq dX12_heir_34 59 37 rfl rfl (fun hc => ?_) (fun hc => ?_)
        · have h := h.1 hc
          refine x_weak [(0, .ref l0)] [0] rfl ?_
          exact nX12_heir_59 hk_l0 h
        · have h := h.2 hc
          refine x_aload_n dX12_heir_37 rfl 38 rfl ?_
          refine x_aload_n dX12_heir_38 rfl 39 rfl ?_
          refine x_aload_n dX12_heir_39 rfl 40 rfl ?_
          refine kX12_highest dX12_heir_40 43 rfl hk_l0 kw7_42 (Nat.le_of_ble_eq_true rfl) (Nat.le_of_ble_eq_true rfl) h (fun r6 h => ?_)
          refine kX12_sitterOf dX12_heir_43 46 rfl hk_l0 kw6_90 (Nat.le_of_ble_eq_true rfl) (Nat.le_of_ble_eq_true rfl) h (fun r7 h => ?_)
          refine kX12_dies dX12_heir_46 49 rfl hk_l0 kw7_164 (Nat.le_of_ble_eq_true rfl) (Nat.le_of_ble_eq_true rfl) h (fun M8 h => ?_)
          refine x_aload_n dX12_heir_49 rfl 50 rfl ?_
          refine kX12_allClimb dX12_heir_50 53 rfl hk_l0 kw6_86 (Nat.le_of_ble_eq_true rfl) (Nat.le_of_ble_eq_true rfl) h (fun M9 h => ?_)
          refine x_iinc dX12_heir_53 rfl (congrArg (l2 + ·) kc_1) (Nat.le_of_ble_eq_true rfl) [(0, .ref l0), (1, .int l1), (2, .int (l2 + 1))] rfl 56 rfl ?_
          refine x_goto dX12_heir_56 24 rfl ?_
          exact hB24 _ _ h
  exact hB24 n l2 M h
def FX12_heir (Q : Int32 → Mem → Prop) (l0 : Nat) (l1 : Int32) (M : Mem) : Prop :=
  ∀ M10 : Mem, M10 = xu M l0 0 0 → FX12_isIn (fun (r11 : Bool) => ((r11 = true → FX12_thinks (fun (M12 : Mem) => NX12_heir_24 Q l0 l1 0 M12) l0 M10) ∧ (r11 = false → Q (-1) M10))) l0 l1 0 13 M10
theorem eX12_heir {Q : Int32 → Mem → Prop} {l0 : Nat} {l1 : Int32} {M : Mem} (hk_l0 : SHk l0 = 12) (h : FX12_heir Q l0 l1 M) : xX RX12 cX12_heir 3 (some .int) 4 0 [(0, .ref l0), (1, .int l1)] [] M (xQi Q) := by
  unfold FX12_heir at h
  refine x_aload_n dX12_heir_0 rfl 1 rfl ?_
  refine x_iconst dX12_heir_1 kc_0 2 rfl ?_
  refine pf12_0 dX12_heir_2 5 rfl hk_l0 kw5_159 (x_mem (fun M10 hM10 => ?_))
  have h := h M10 hM10
  refine x_aload_n dX12_heir_5 rfl 6 rfl ?_
  refine x_iload_n dX12_heir_6 rfl 7 rfl ?_
  refine x_iconst dX12_heir_7 kc_0 8 rfl ?_
  refine x_bipush dX12_heir_8 kb_13 10 rfl ?_
  refine kX12_isIn dX12_heir_10 13 rfl hk_l0 kw6_82 (Nat.le_of_ble_eq_true rfl) (Nat.le_of_ble_eq_true rfl) h (fun r11 h => ?_)
  refine x_if_ne_b dX12_heir_13 18 16 rfl rfl (fun hc => ?_) (fun hc => ?_)
  · have h := h.1 hc
    refine x_aload_n dX12_heir_18 rfl 19 rfl ?_
    refine kX12_thinks dX12_heir_19 22 rfl hk_l0 kw7_192 (Nat.le_of_ble_eq_true rfl) (Nat.le_of_ble_eq_true rfl) h (fun M12 h => ?_)
    refine x_iconst dX12_heir_22 kc_0 23 rfl ?_
    refine x_istore_n dX12_heir_23 (Nat.le_of_ble_eq_true rfl) [(0, .ref l0), (1, .int l1), (2, .int 0)] rfl 24 rfl ?_
    exact nX12_heir_24 hk_l0 h
  · have h := h.2 hc
    refine x_iconst dX12_heir_16 kc_m1 17 rfl ?_
    exact x_iret dX12_heir_17 h
theorem cX12_heir_ {Q : Int32 → Mem → Prop} {l0 : Nat} {l1 : Int32} {M : Mem} (hk_l0 : SHk l0 = 12) (h : FX12_heir Q l0 l1 M) : xM yX12_heir cX12_heir 3 (some .int) 4 [.ref l0, .int l1] M (xQi Q) := xM_of (by decide +kernel) (Nat.le_of_ble_eq_true rfl) (eX12_heir hk_l0 h)
theorem kX12_heir {own : String} {cc : ByteArray} {nL : Nat} {rt : Option FieldType} {d pc ix : Nat} {L : List (Nat × Value)} {st : List Value} {M : Mem} {Rt : xGt → Array Value → State → Outcome → State → Prop} {Q : Int32 → Mem → Prop} {l0 : Nat} {l1 : Int32} (hd : decode cc pc = .ok (.invokevirtual ix, 3)) (q : Nat) (hq : pc + 3 = q) (hk_l0 : SHk l0 = 12) (w1 : Cond.methodLink own ix yX12_heir ∈ xTs) (hr : 4 < d) (hst : (st.map fun v => v.category).sum ≤ 8) (h : FX12_heir Q l0 l1 M) (k : ∀ (r : Int32) (N : Mem), Q r N → xX own cc nL rt d q L (.int r :: st) N Rt) : xX own cc nL rt d pc L (.int l1 :: .ref l0 :: st) M Rt :=
  x_callV_i (n := 1) (As := [.int l1]) hd q hq hk_l0 (by decide) rfl rfl w1 kw7_213 kw7_214 kw1_14 kw7_215 (by decide +kernel) rfl hr (by decide) hst _ rfl (cX12_heir_ hk_l0 h) k
def lbX12_comes_46 (Q : Int32 → Mem → Prop) (l0 : Nat) (l2 : Int32) (B46 : Int32 → Int32 → Mem → Prop) (l3 : Int32) (l4 : Int32) (M : Mem) : Prop :=
  ((l4 < l2 → Q l3 M) ∧ (¬ l4 < l2 → FX12_heardAs (fun (r2 : Int32) (M1 : Mem) => B46 r2 (l4 + (-1)) M1) l0 l3 l4 M))
def NX12_comes_46 (Q : Int32 → Mem → Prop) (l0 : Nat) (l2 : Int32) (l3 : Int32) (l4 : Int32) (M : Mem) : Prop := xlp (fun (B : Int32 × Int32 × Mem → Prop) a => lbX12_comes_46 Q l0 l2 (fun l3 l4 M => B (l3, l4, M)) a.1 a.2.1 a.2.2) (l3, l4, M)
theorem nX12_comes_46 {Q : Int32 → Mem → Prop} {l0 : Nat} {l2 : Int32} {l3 : Int32} {l4 : Int32} {M : Mem} (hk_l0 : SHk l0 = 12) (h : NX12_comes_46 Q l0 l2 l3 l4 M) : xX RX12 cX12_comes 5 (some .int) 7 46 [(0, .ref l0), (2, .int l2), (3, .int l3), (4, .int l4)] [] M (xQi Q) := by
  obtain ⟨n, h⟩ := h
  have hB46 : ∀ (n : Nat) (l3 : Int32) (l4 : Int32) (M : Mem), xlpn (fun (B : Int32 × Int32 × Mem → Prop) a => lbX12_comes_46 Q l0 l2 (fun l3 l4 M => B (l3, l4, M)) a.1 a.2.1 a.2.2) n (l3, l4, M) → xX RX12 cX12_comes 5 (some .int) 7 46 [(0, .ref l0), (2, .int l2), (3, .int l3), (4, .int l4)] [] M (xQi Q) := by
    intro n
    induction n with
    | zero => intro l3 l4 M h; exact False.elim h
    | succ n ih =>
      intro l3 l4 M h
      have hB46 := ih
      have h : lbX12_comes_46 Q l0 l2 (fun l3 l4 M => xlpn (fun (B : Int32 × Int32 × Mem → Prop) a => lbX12_comes_46 Q l0 l2 (fun l3 l4 M => B (l3, l4, M)) a.1 a.2.1 a.2.2) n (l3, l4, M)) l3 l4 M := h
      unfold lbX12_comes_46 at h
      refine x_iload dX12_comes_46 rfl 48 rfl ?_
      refine x_iload_n dX12_comes_48 rfl 49 rfl ?_
      refine x_icmp_lt dX12_comes_49 66 52 rfl rfl (fun hc => ?_) (fun hc => ?_)
      · have h := h.1 hc
        refine x_iload_n dX12_comes_66 rfl 67 rfl ?_
        exact x_iret dX12_comes_67 h
      · have h := h.2 hc
        refine x_aload_n dX12_comes_52 rfl 53 rfl ?_
        refine x_iload_n dX12_comes_53 rfl 54 rfl ?_
        refine x_iload dX12_comes_54 rfl 56 rfl ?_
        refine kX12_heardAs dX12_comes_56 59 rfl hk_l0 kw7_138 (Nat.le_of_ble_eq_true rfl) (Nat.le_of_ble_eq_true rfl) h (fun r2 M1 h => ?_)
        refine x_istore_n dX12_comes_59 (Nat.le_of_ble_eq_true rfl) [(0, .ref l0), (2, .int l2), (3, .int r2), (4, .int l4)] rfl 60 rfl ?_
        refine x_iinc dX12_comes_60 rfl (congrArg (l4 + ·) kc_m1) (Nat.le_of_ble_eq_true rfl) [(0, .ref l0), (2, .int l2), (3, .int r2), (4, .int (l4 + (-1)))] rfl 63 rfl ?_
        refine x_goto dX12_comes_63 46 rfl ?_
        exact hB46 _ _ _ h
  exact hB46 n l3 l4 M h
def FX12_comes (Q : Int32 → Mem → Prop) (l0 : Nat) (l1 : Int32) (l2 : Int32) (M : Mem) : Prop :=
  ∀ M3 : Mem, M3 = xu M l0 0 0 → FX12_isIn (fun (r4 : Bool) => ((r4 = false → Q (-100) M3) ∧ (r4 = true → FX12_isPillar (fun (r5 : Bool) => ((r5 = false → Q (-100) M3) ∧ (r5 = true → FX12_highest (fun (r6 : Int32) => ((l2 ≤ r6 → FX12_highest (fun (r7 : Int32) => NX12_comes_46 Q l0 l2 l1 (r7 - 1) M3) l0 M3) ∧ (¬ l2 ≤ r6 → Q (-100) M3))) l0 M3))) l0 l2 M3))) l0 l1 (-99) 99 M3
theorem eX12_comes {Q : Int32 → Mem → Prop} {l0 : Nat} {l1 : Int32} {l2 : Int32} {M : Mem} (hk_l0 : SHk l0 = 12) (h : FX12_comes Q l0 l1 l2 M) : xX RX12 cX12_comes 5 (some .int) 7 0 [(0, .ref l0), (1, .int l1), (2, .int l2)] [] M (xQi Q) := by
  unfold FX12_comes at h
  refine x_aload_n dX12_comes_0 rfl 1 rfl ?_
  refine x_iconst dX12_comes_1 kc_0 2 rfl ?_
  refine pf12_0 dX12_comes_2 5 rfl hk_l0 kw5_159 (x_mem (fun M3 hM3 => ?_))
  have h := h M3 hM3
  refine x_aload_n dX12_comes_5 rfl 6 rfl ?_
  refine x_iload_n dX12_comes_6 rfl 7 rfl ?_
  refine x_bipush dX12_comes_7 kb_m99 9 rfl ?_
  refine x_bipush dX12_comes_9 kb_99 11 rfl ?_
  refine kX12_isIn dX12_comes_11 14 rfl hk_l0 kw6_82 (Nat.le_of_ble_eq_true rfl) (Nat.le_of_ble_eq_true rfl) h (fun r4 h => ?_)
  refine x_if_eq_b dX12_comes_14 33 17 rfl rfl (fun hc => ?_) (fun hc => ?_)
  · have h := h.1 hc
    refine x_bipush dX12_comes_33 kb_m100 35 rfl ?_
    exact x_iret dX12_comes_35 h
  · have h := h.2 hc
    refine x_aload_n dX12_comes_17 rfl 18 rfl ?_
    refine x_iload_n dX12_comes_18 rfl 19 rfl ?_
    refine kX12_isPillar dX12_comes_19 22 rfl hk_l0 kw7_50 (Nat.le_of_ble_eq_true rfl) (Nat.le_of_ble_eq_true rfl) h (fun r5 h => ?_)
    refine x_if_eq_b dX12_comes_22 33 25 rfl rfl (fun hc => ?_) (fun hc => ?_)
    · have h := h.1 hc
      refine x_bipush dX12_comes_33 kb_m100 35 rfl ?_
      exact x_iret dX12_comes_35 h
    · have h := h.2 hc
      refine x_iload_n dX12_comes_25 rfl 26 rfl ?_
      refine x_aload_n dX12_comes_26 rfl 27 rfl ?_
      refine kX12_highest dX12_comes_27 30 rfl hk_l0 kw7_42 (Nat.le_of_ble_eq_true rfl) (Nat.le_of_ble_eq_true rfl) h (fun r6 h => ?_)
      refine x_icmp_le dX12_comes_30 36 33 rfl rfl (fun hc => ?_) (fun hc => ?_)
      · have h := h.1 hc
        refine x_iload_n dX12_comes_36 rfl 37 rfl ?_
        refine x_istore_n dX12_comes_37 (Nat.le_of_ble_eq_true rfl) [(0, .ref l0), (1, .int l1), (2, .int l2), (3, .int l1)] rfl 38 rfl ?_
        refine x_aload_n dX12_comes_38 rfl 39 rfl ?_
        refine kX12_highest dX12_comes_39 42 rfl hk_l0 kw7_42 (Nat.le_of_ble_eq_true rfl) (Nat.le_of_ble_eq_true rfl) h (fun r7 h => ?_)
        refine x_iconst dX12_comes_42 kc_1 43 rfl ?_
        refine x_isub dX12_comes_43 44 rfl ?_
        refine x_istore dX12_comes_44 (Nat.le_of_ble_eq_true rfl) [(0, .ref l0), (1, .int l1), (2, .int l2), (3, .int l1), (4, .int (r7 - 1))] rfl 46 rfl ?_
        refine x_weak [(0, .ref l0), (2, .int l2), (3, .int l1), (4, .int (r7 - 1))] [0, 2, 3, 4] rfl ?_
        exact nX12_comes_46 hk_l0 h
      · have h := h.2 hc
        refine x_bipush dX12_comes_33 kb_m100 35 rfl ?_
        exact x_iret dX12_comes_35 h
theorem cX12_comes_ {Q : Int32 → Mem → Prop} {l0 : Nat} {l1 : Int32} {l2 : Int32} {M : Mem} (hk_l0 : SHk l0 = 12) (h : FX12_comes Q l0 l1 l2 M) : xM yX12_comes cX12_comes 5 (some .int) 7 [.ref l0, .int l1, .int l2] M (xQi Q) := xM_of (by decide +kernel) (Nat.le_of_ble_eq_true rfl) (eX12_comes hk_l0 h)
theorem kX12_comes {own : String} {cc : ByteArray} {nL : Nat} {rt : Option FieldType} {d pc ix : Nat} {L : List (Nat × Value)} {st : List Value} {M : Mem} {Rt : xGt → Array Value → State → Outcome → State → Prop} {Q : Int32 → Mem → Prop} {l0 : Nat} {l1 : Int32} {l2 : Int32} (hd : decode cc pc = .ok (.invokevirtual ix, 3)) (q : Nat) (hq : pc + 3 = q) (hk_l0 : SHk l0 = 12) (w1 : Cond.methodLink own ix yX12_comes ∈ xTs) (hr : 7 < d) (hst : (st.map fun v => v.category).sum ≤ 8) (h : FX12_comes Q l0 l1 l2 M) (k : ∀ (r : Int32) (N : Mem), Q r N → xX own cc nL rt d q L (.int r :: st) N Rt) : xX own cc nL rt d pc L (.int l2 :: .int l1 :: .ref l0 :: st) M Rt :=
  x_callV_i (n := 2) (As := [.int l1, .int l2]) hd q hq hk_l0 (by decide) rfl rfl w1 kw7_217 kw7_218 kw1_14 kw7_219 (by decide +kernel) rfl hr (by decide) hst _ rfl (cX12_comes_ hk_l0 h) k
