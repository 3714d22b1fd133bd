def lbX12_leavesGround_18 (Q : Mem → Prop) (l0 : Nat) (B18 : Int32 → Mem → Prop) (l2 : Int32) (M : Mem) : Prop :=
  (((M (l0 + 1) 6) ≤ l2 → Q M) ∧ (¬ (M (l0 + 1) 6) ≤ l2 → vp_in ((93 + l2) + 1) 107 ∧ vp_in (93 + l2) 107 ∧ ∀ M1 : Mem, M1 = xu M (l0 + 1) (ix (93 + l2)) (M (l0 + 1) (ix ((93 + l2) + 1))) → B18 (l2 + 1) M1))
def NX12_leavesGround_18 (Q : Mem → Prop) (l0 : Nat) (l2 : Int32) (M : Mem) : Prop := xlp (fun (B : Int32 × Mem → Prop) a => lbX12_leavesGround_18 Q l0 (fun l2 M => B (l2, M)) a.1 a.2) (l2, M)
theorem nX12_leavesGround_18 {Q : Mem → Prop} {l0 : Nat} {l2 : Int32} {M : Mem} (hk_l0 : SHk l0 = 12) (h : NX12_leavesGround_18 Q l0 l2 M) : xX RX12 cX12_leavesGround 3 none 1 18 [(0, .ref l0), (2, .int l2)] [] M (xQv Q) := by
  obtain ⟨n, h⟩ := h
  have hB18 : ∀ (n : Nat) (l2 : Int32) (M : Mem), xlpn (fun (B : Int32 × Mem → Prop) a => lbX12_leavesGround_18 Q l0 (fun l2 M => B (l2, M)) a.1 a.2) n (l2, M) → xX RX12 cX12_leavesGround 3 none 1 18 [(0, .ref l0), (2, .int l2)] [] M (xQv Q) := by
    intro n
    induction n with
    | zero => intro l2 M h; exact False.elim h
    | succ n ih =>
      intro l2 M h
      have hB18 := ih
      have h : lbX12_leavesGround_18 Q l0 (fun l2 M => xlpn (fun (B : Int32 × Mem → Prop) a => lbX12_leavesGround_18 Q l0 (fun l2 M => B (l2, M)) a.1 a.2) n (l2, M)) l2 M := h
      unfold lbX12_leavesGround_18 at h
      refine x_iload_n dX12_leavesGround_18 rfl 19 rfl ?_
      refine x_aload_n dX12_leavesGround_19 rfl 20 rfl ?_
      refine gf12_1 dX12_leavesGround_20 23 rfl hk_l0 kw5_160 ?_
      refine x_bipush dX12_leavesGround_23 kb_6 25 rfl ?_
      refine x_iaload dX12_leavesGround_25 (ly12_1 hk_l0) (by unfold vp_in; decide) 26 rfl ?_
      refine x_icmp_ge dX12_leavesGround_26 55 29 rfl rfl (fun hc => ?_) (fun hc => ?_)
      · have h := h.1 hc
        exact x_vret dX12_leavesGround_55 h
      · have h := h.2 hc
        refine x_aload_n dX12_leavesGround_29 rfl 30 rfl ?_
        refine gf12_1 dX12_leavesGround_30 33 rfl hk_l0 kw5_160 ?_
        refine x_bipush dX12_leavesGround_33 kb_93 35 rfl ?_
        refine x_iload_n dX12_leavesGround_35 rfl 36 rfl ?_
        refine x_iadd dX12_leavesGround_36 37 rfl ?_
        refine x_aload_n dX12_leavesGround_37 rfl 38 rfl ?_
        refine gf12_1 dX12_leavesGround_38 41 rfl hk_l0 kw5_160 ?_
        refine x_bipush dX12_leavesGround_41 kb_93 43 rfl ?_
        refine x_iload_n dX12_leavesGround_43 rfl 44 rfl ?_
        refine x_iadd dX12_leavesGround_44 45 rfl ?_
        refine x_iconst dX12_leavesGround_45 kc_1 46 rfl ?_
        refine x_iadd dX12_leavesGround_46 47 rfl ?_
        obtain ⟨hin, h⟩ := h
        refine x_iaload dX12_leavesGround_47 (ly12_1 hk_l0) hin 48 rfl ?_
        obtain ⟨hin, h⟩ := h
        refine x_iastore dX12_leavesGround_48 (ly12_1 hk_l0) hin 49 rfl (x_mem (fun M1 hM1 => ?_))
        have h := h M1 hM1
        refine x_iinc dX12_leavesGround_49 rfl (congrArg (l2 + ·) kc_1) (Nat.le_of_ble_eq_true rfl) [(0, .ref l0), (2, .int (l2 + 1))] rfl 52 rfl ?_
        refine x_goto dX12_leavesGround_52 18 rfl ?_
        exact hB18 _ _ h
  exact hB18 n l2 M h
def FX12_leavesGround (Q : Mem → Prop) (l0 : Nat) (l1 : Int32) (M : Mem) : Prop :=
  ∀ M2 : Mem, M2 = xu M (l0 + 1) (6) ((M (l0 + 1) 6) - 1) → NX12_leavesGround_18 Q l0 l1 M2
theorem eX12_leavesGround {Q : Mem → Prop} {l0 : Nat} {l1 : Int32} {M : Mem} (hk_l0 : SHk l0 = 12) (h : FX12_leavesGround Q l0 l1 M) : xX RX12 cX12_leavesGround 3 none 1 0 [(0, .ref l0), (1, .int l1)] [] M (xQv Q) := by
  unfold FX12_leavesGround at h
  refine x_aload_n dX12_leavesGround_0 rfl 1 rfl ?_
  refine gf12_1 dX12_leavesGround_1 4 rfl hk_l0 kw5_160 ?_
  refine x_bipush dX12_leavesGround_4 kb_6 6 rfl ?_
  refine x_aload_n dX12_leavesGround_6 rfl 7 rfl ?_
  refine gf12_1 dX12_leavesGround_7 10 rfl hk_l0 kw5_160 ?_
  refine x_bipush dX12_leavesGround_10 kb_6 12 rfl ?_
  refine x_iaload dX12_leavesGround_12 (ly12_1 hk_l0) (by unfold vp_in; decide) 13 rfl ?_
  refine x_iconst dX12_leavesGround_13 kc_1 14 rfl ?_
  refine x_isub dX12_leavesGround_14 15 rfl ?_
  refine x_iastore dX12_leavesGround_15 (ly12_1 hk_l0) (by unfold vp_in; decide) 16 rfl (x_mem (fun M2 hM2 => ?_))
  have h := h M2 hM2
  refine x_iload_n dX12_leavesGround_16 rfl 17 rfl ?_
  refine x_istore_n dX12_leavesGround_17 (Nat.le_of_ble_eq_true rfl) [(0, .ref l0), (1, .int l1), (2, .int l1)] rfl 18 rfl ?_
  refine x_weak [(0, .ref l0), (2, .int l1)] [0, 2] rfl ?_
  exact nX12_leavesGround_18 hk_l0 h
theorem cX12_leavesGround_ {Q : Mem → Prop} {l0 : Nat} {l1 : Int32} {M : Mem} (hk_l0 : SHk l0 = 12) (h : FX12_leavesGround Q l0 l1 M) : xM yX12_leavesGround cX12_leavesGround 3 none 1 [.ref l0, .int l1] M (xQv Q) := xM_of (by decide +kernel) (Nat.le_of_ble_eq_true rfl) (eX12_leavesGround hk_l0 h)
theorem kX12_leavesGround {own : String} {cc : ByteArray} {nL : Nat} {rt : Option FieldType} {d pc ix : Nat} {L : List (Nat × Value)} {st : List Value} {M : Mem} {Rt : xGt → Array Value → State → Outcome → State → Prop} {Q : Mem → Prop} {l0 : Nat} {l1 : Int32} (hd : decode cc pc = .ok (.invokevirtual ix, 3)) (q : Nat) (hq : pc + 3 = q) (hk_l0 : SHk l0 = 12) (w1 : Cond.methodLink own ix yX12_leavesGround ∈ xTs) (hr : 1 < d) (hst : (st.map fun v => v.category).sum ≤ 8) (h : FX12_leavesGround Q l0 l1 M) (k : ∀ (N : Mem), Q N → xX own cc nL rt d q L st N Rt) : xX own cc nL rt d pc L (.int l1 :: .ref l0 :: st) M Rt :=
  x_callV_v (n := 1) (As := [.int l1]) hd q hq hk_l0 (by decide) rfl rfl w1 kw6_100 ks3_5 kw1_14 kw6_101 (by decide +kernel) rfl hr (by decide) hst _ rfl (cX12_leavesGround_ hk_l0 h) k
def FX12_comesBehind (Q : Mem → Prop) (l0 : Nat) (l1 : Int32) (M : Mem) : Prop :=
  vp_in (93 + (M (l0 + 1) 6)) 107 ∧ ∀ M1 : Mem, M1 = xu M (l0 + 1) (ix (93 + (M (l0 + 1) 6))) l1 → ∀ M2 : Mem, M2 = xu M1 (l0 + 1) (6) ((M1 (l0 + 1) 6) + 1) → Q M2
theorem eX12_comesBehind {Q : Mem → Prop} {l0 : Nat} {l1 : Int32} {M : Mem} (hk_l0 : SHk l0 = 12) (h : FX12_comesBehind Q l0 l1 M) : xX RX12 cX12_comesBehind 2 none 1 0 [(0, .ref l0), (1, .int l1)] [] M (xQv Q) := by
  unfold FX12_comesBehind at h
  refine x_aload_n dX12_comesBehind_0 rfl 1 rfl ?_
  refine gf12_1 dX12_comesBehind_1 4 rfl hk_l0 kw5_160 ?_
  refine x_bipush dX12_comesBehind_4 kb_93 6 rfl ?_
  refine x_aload_n dX12_comesBehind_6 rfl 7 rfl ?_
  refine gf12_1 dX12_comesBehind_7 10 rfl hk_l0 kw5_160 ?_
  refine x_bipush dX12_comesBehind_10 kb_6 12 rfl ?_
  refine x_iaload dX12_comesBehind_12 (ly12_1 hk_l0) (by unfold vp_in; decide) 13 rfl ?_
  refine x_iadd dX12_comesBehind_13 14 rfl ?_
  refine x_iload_n dX12_comesBehind_14 rfl 15 rfl ?_
  obtain ⟨hin, h⟩ := h
  refine x_iastore dX12_comesBehind_15 (ly12_1 hk_l0) hin 16 rfl (x_mem (fun M1 hM1 => ?_))
  have h := h M1 hM1
  refine x_aload_n dX12_comesBehind_16 rfl 17 rfl ?_
  refine gf12_1 dX12_comesBehind_17 20 rfl hk_l0 kw5_160 ?_
  refine x_bipush dX12_comesBehind_20 kb_6 22 rfl ?_
  refine x_aload_n dX12_comesBehind_22 rfl 23 rfl ?_
  refine gf12_1 dX12_comesBehind_23 26 rfl hk_l0 kw5_160 ?_
  refine x_bipush dX12_comesBehind_26 kb_6 28 rfl ?_
  refine x_iaload dX12_comesBehind_28 (ly12_1 hk_l0) (by unfold vp_in; decide) 29 rfl ?_
  refine x_iconst dX12_comesBehind_29 kc_1 30 rfl ?_
  refine x_iadd dX12_comesBehind_30 31 rfl ?_
  refine x_iastore dX12_comesBehind_31 (ly12_1 hk_l0) (by unfold vp_in; decide) 32 rfl (x_mem (fun M2 hM2 => ?_))
  have h := h M2 hM2
  exact x_vret dX12_comesBehind_32 h
theorem cX12_comesBehind_ {Q : Mem → Prop} {l0 : Nat} {l1 : Int32} {M : Mem} (hk_l0 : SHk l0 = 12) (h : FX12_comesBehind Q l0 l1 M) : xM yX12_comesBehind cX12_comesBehind 2 none 1 [.ref l0, .int l1] M (xQv Q) := xM_of (by decide +kernel) (Nat.le_of_ble_eq_true rfl) (eX12_comesBehind hk_l0 h)
theorem kX12_comesBehind {own : String} {cc : ByteArray} {nL : Nat} {rt : Option FieldType} {d pc ix : Nat} {L : List (Nat × Value)} {st : List Value} {M : Mem} {Rt : xGt → Array Value → State → Outcome → State → Prop} {Q : Mem → Prop} {l0 : Nat} {l1 : Int32} (hd : decode cc pc = .ok (.invokevirtual ix, 3)) (q : Nat) (hq : pc + 3 = q) (hk_l0 : SHk l0 = 12) (w1 : Cond.methodLink own ix yX12_comesBehind ∈ xTs) (hr : 1 < d) (hst : (st.map fun v => v.category).sum ≤ 8) (h : FX12_comesBehind Q l0 l1 M) (k : ∀ (N : Mem), Q N → xX own cc nL rt d q L st N Rt) : xX own cc nL rt d pc L (.int l1 :: .ref l0 :: st) M Rt :=
  x_callV_v (n := 1) (As := [.int l1]) hd q hq hk_l0 (by decide) rfl rfl w1 kw6_112 ks3_7 kw1_14 kw6_113 (by decide +kernel) rfl hr (by decide) hst _ rfl (cX12_comesBehind_ hk_l0 h) k
def NX12_allClimb_91 (Q : Mem → Prop) (B7 : Int32 → Mem → Prop) (l0 : Nat) (l1 : Int32) (l3 : Int32) (M : Mem) : Prop :=
  vp_in (73 + l1) 107 ∧ ∀ M1 : Mem, M1 = xu M (l0 + 1) (ix (73 + l1)) (l3 + 1) → FX12_notes (fun (M2 : Mem) => B7 (l1 + (-1)) M2) l0 2 l3 l1 M1
theorem nX12_allClimb_91 {Q : Mem → Prop} {B7 : Int32 → Mem → Prop} {l0 : Nat} {l1 : Int32} {l3 : Int32} {M : Mem} (hB7 : ∀ (l1 : Int32) (M : Mem), B7 l1 M → xX RX12 cX12_allClimb 4 none 3 7 [(0, .ref l0), (1, .int l1)] [] M (xQv Q)) (hk_l0 : SHk l0 = 12) (h : NX12_allClimb_91 Q B7 l0 l1 l3 M) : xX RX12 cX12_allClimb 4 none 3 91 [(0, .ref l0), (1, .int l1), (3, .int l3)] [] M (xQv Q) := by
  unfold NX12_allClimb_91 at h
  refine x_aload_n dX12_allClimb_91 rfl 92 rfl ?_
  refine gf12_1 dX12_allClimb_92 95 rfl hk_l0 kw5_160 ?_
  refine x_bipush dX12_allClimb_95 kb_73 97 rfl ?_
  refine x_iload_n dX12_allClimb_97 rfl 98 rfl ?_
  refine x_iadd dX12_allClimb_98 99 rfl ?_
  refine x_iload_n dX12_allClimb_99 rfl 100 rfl ?_
  refine x_iconst dX12_allClimb_100 kc_1 101 rfl ?_
  refine x_iadd dX12_allClimb_101 102 rfl ?_
  obtain ⟨hin, h⟩ := h
  refine x_iastore dX12_allClimb_102 (ly12_1 hk_l0) hin 103 rfl (x_mem (fun M1 hM1 => ?_))
  have h := h M1 hM1
  refine x_aload_n dX12_allClimb_103 rfl 104 rfl ?_
  refine x_iconst dX12_allClimb_104 kc_2 105 rfl ?_
  refine x_iload_n dX12_allClimb_105 rfl 106 rfl ?_
  refine x_iload_n dX12_allClimb_106 rfl 107 rfl ?_
  refine kX12_notes dX12_allClimb_107 110 rfl hk_l0 kw6_102 (Nat.le_of_ble_eq_true rfl) (Nat.le_of_ble_eq_true rfl) h (fun M2 h => ?_)
  refine x_iinc dX12_allClimb_110 rfl (congrArg (l1 + ·) kc_m1) (Nat.le_of_ble_eq_true rfl) [(0, .ref l0), (1, .int (l1 + (-1))), (3, .int l3)] rfl 113 rfl ?_
  refine x_goto dX12_allClimb_113 7 rfl ?_
  refine x_weak [(0, .ref l0), (1, .int (l1 + (-1)))] [0, 1] rfl ?_
  exact hB7 _ _ h
def NX12_allClimb_67 (Q : Mem → Prop) (B7 : Int32 → Mem → Prop) (l0 : Nat) (l1 : Int32) (l2 : Int32) (s0 : Int32) (M : Mem) : Prop :=
  ((¬ l2 = (-1) → vp_in (73 + l2) 107 ∧ ∀ M3 : Mem, M3 = xu M (l0 + 1) (ix (73 + l2)) 0 → NX12_allClimb_91 Q B7 l0 l1 s0 M3) ∧ (l2 = (-1) → FX12_leavesGround (fun (M4 : Mem) => NX12_allClimb_91 Q B7 l0 l1 s0 M4) l0 0 M))
theorem nX12_allClimb_67 {Q : Mem → Prop} {B7 : Int32 → Mem → Prop} {l0 : Nat} {l1 : Int32} {l2 : Int32} {s0 : Int32} {M : Mem} (hB7 : ∀ (l1 : Int32) (M : Mem), B7 l1 M → xX RX12 cX12_allClimb 4 none 3 7 [(0, .ref l0), (1, .int l1)] [] M (xQv Q)) (hk_l0 : SHk l0 = 12) (h : NX12_allClimb_67 Q B7 l0 l1 l2 s0 M) : xX RX12 cX12_allClimb 4 none 3 67 [(0, .ref l0), (1, .int l1), (2, .int l2)] [.int s0] M (xQv Q) := by
  unfold NX12_allClimb_67 at h
  refine x_istore_n dX12_allClimb_67 (Nat.le_of_ble_eq_true rfl) [(0, .ref l0), (1, .int l1), (2, .int l2), (3, .int s0)] rfl 68 rfl ?_
  refine x_iload_n dX12_allClimb_68 rfl 69 rfl ?_
  refine x_iconst dX12_allClimb_69 kc_m1 70 rfl ?_
  refine x_icmp_ne dX12_allClimb_70 81 73 rfl rfl (fun hc => ?_) (fun hc => ?_)
  · have h := h.1 hc
    refine x_aload_n dX12_allClimb_81 rfl 82 rfl ?_
    refine gf12_1 dX12_allClimb_82 85 rfl hk_l0 kw5_160 ?_
    refine x_bipush dX12_allClimb_85 kb_73 87 rfl ?_
    refine x_iload_n dX12_allClimb_87 rfl 88 rfl ?_
    refine x_iadd dX12_allClimb_88 89 rfl ?_
    refine x_iconst dX12_allClimb_89 kc_0 90 rfl ?_
    obtain ⟨hin, h⟩ := h
    refine x_iastore dX12_allClimb_90 (ly12_1 hk_l0) hin 91 rfl (x_mem (fun M3 hM3 => ?_))
    have h := h M3 hM3
    refine x_weak [(0, .ref l0), (1, .int l1), (3, .int s0)] [0, 1, 3] rfl ?_
    exact nX12_allClimb_91 hB7 hk_l0 h
  · have h := h.2 hc
    refine x_aload_n dX12_allClimb_73 rfl 74 rfl ?_
    refine x_iconst dX12_allClimb_74 kc_0 75 rfl ?_
    refine kX12_leavesGround dX12_allClimb_75 78 rfl hk_l0 kw6_98 (Nat.le_of_ble_eq_true rfl) (Nat.le_of_ble_eq_true rfl) h (fun M4 h => ?_)
    refine x_goto dX12_allClimb_78 91 rfl ?_
    refine x_weak [(0, .ref l0), (1, .int l1), (3, .int s0)] [0, 1, 3] rfl ?_
    exact nX12_allClimb_91 hB7 hk_l0 h
def NX12_allClimb_47 (Q : Mem → Prop) (B7 : Int32 → Mem → Prop) (l0 : Nat) (l1 : Int32) (l2 : Int32) (M : Mem) : Prop :=
  ((¬ l2 = (-1) → FX12_sitterOf (fun (r5 : Int32) => NX12_allClimb_67 Q B7 l0 l1 l2 r5 M) l0 l2 M) ∧ (l2 = (-1) → NX12_allClimb_67 Q B7 l0 l1 l2 (M (l0 + 1) 93) M))
theorem nX12_allClimb_47 {Q : Mem → Prop} {B7 : Int32 → Mem → Prop} {l0 : Nat} {l1 : Int32} {l2 : Int32} {M : Mem} (hB7 : ∀ (l1 : Int32) (M : Mem), B7 l1 M → xX RX12 cX12_allClimb 4 none 3 7 [(0, .ref l0), (1, .int l1)] [] M (xQv Q)) (hk_l0 : SHk l0 = 12) (h : NX12_allClimb_47 Q B7 l0 l1 l2 M) : xX RX12 cX12_allClimb 4 none 3 47 [(0, .ref l0), (1, .int l1), (2, .int l2)] [] M (xQv Q) := by
  unfold NX12_allClimb_47 at h
  refine x_iload_n dX12_allClimb_47 rfl 48 rfl ?_
  refine x_iconst dX12_allClimb_48 kc_m1 49 rfl ?_
  refine x_icmp_ne dX12_allClimb_49 62 52 rfl rfl (fun hc => ?_) (fun hc => ?_)
  · have h := h.1 hc
    refine x_aload_n dX12_allClimb_62 rfl 63 rfl ?_
    refine x_iload_n dX12_allClimb_63 rfl 64 rfl ?_
    refine kX12_sitterOf dX12_allClimb_64 67 rfl hk_l0 kw6_90 (Nat.le_of_ble_eq_true rfl) (Nat.le_of_ble_eq_true rfl) h (fun r5 h => ?_)
    exact nX12_allClimb_67 hB7 hk_l0 h
  · have h := h.2 hc
    refine x_aload_n dX12_allClimb_52 rfl 53 rfl ?_
    refine gf12_1 dX12_allClimb_53 56 rfl hk_l0 kw5_160 ?_
    refine x_bipush dX12_allClimb_56 kb_93 58 rfl ?_
    refine x_iaload dX12_allClimb_58 (ly12_1 hk_l0) (by unfold vp_in; decide) 59 rfl ?_
    refine x_goto dX12_allClimb_59 67 rfl ?_
    exact nX12_allClimb_67 hB7 hk_l0 h
def lbX12_allClimb_7 (Q : Mem → Prop) (l0 : Nat) (B7 : Int32 → Mem → Prop) (l1 : Int32) (M : Mem) : Prop :=
  ((l1 < 0 → Q M) ∧ (¬ l1 < 0 → FX12_sitterOf (fun (r6 : Int32) => ((r6 = (-1) → FX12_nextBelow (fun (r7 : Int32) => ((¬ r7 = (-1) → NX12_allClimb_47 Q B7 l0 l1 r7 M) ∧ (r7 = (-1) → ((¬ (M (l0 + 1) 6) = 0 → NX12_allClimb_47 Q B7 l0 l1 r7 M) ∧ ((M (l0 + 1) 6) = 0 → B7 (l1 + (-1)) M))))) l0 l1 M) ∧ (¬ r6 = (-1) → B7 (l1 + (-1)) M))) l0 l1 M))
def NX12_allClimb_7 (Q : Mem → Prop) (l0 : Nat) (l1 : Int32) (M : Mem) : Prop := xlp (fun (B : Int32 × Mem → Prop) a => lbX12_allClimb_7 Q l0 (fun l1 M => B (l1, M)) a.1 a.2) (l1, M)
theorem nX12_allClimb_7 {Q : Mem → Prop} {l0 : Nat} {l1 : Int32} {M : Mem} (hk_l0 : SHk l0 = 12) (h : NX12_allClimb_7 Q l0 l1 M) : xX RX12 cX12_allClimb 4 none 3 7 [(0, .ref l0), (1, .int l1)] [] M (xQv Q) := by
  obtain ⟨n, h⟩ := h
  have hB7 : ∀ (n : Nat) (l1 : Int32) (M : Mem), xlpn (fun (B : Int32 × Mem → Prop) a => lbX12_allClimb_7 Q l0 (fun l1 M => B (l1, M)) a.1 a.2) n (l1, M) → xX RX12 cX12_allClimb 4 none 3 7 [(0, .ref l0), (1, .int l1)] [] M (xQv Q) := by
    intro n
    induction n with
    | zero => intro l1 M h; exact False.elim h
    | succ n ih =>
      intro l1 M h
      have hB7 := ih
      have h : lbX12_allClimb_7 Q l0 (fun l1 M => xlpn (fun (B : Int32 × Mem → Prop) a => lbX12_allClimb_7 Q l0 (fun l1 M => B (l1, M)) a.1 a.2) n (l1, M)) l1 M := h
      unfold lbX12_allClimb_7 at h
      refine x_iload_n dX12_allClimb_7 rfl 8 rfl ?_
      refine x_if_lt dX12_allClimb_8 116 11 rfl rfl (fun hc => ?_) (fun hc => ?_)
      · have h := h.1 hc
        exact x_vret dX12_allClimb_116 h
      · have h := h.2 hc
        refine x_aload_n dX12_allClimb_11 rfl 12 rfl ?_
        refine x_iload_n dX12_allClimb_12 rfl 13 rfl ?_
        refine kX12_sitterOf dX12_allClimb_13 16 rfl hk_l0 kw6_90 (Nat.le_of_ble_eq_true rfl) (Nat.le_of_ble_eq_true rfl) h (fun r6 h => ?_)
        refine x_iconst dX12_allClimb_16 kc_m1 17 rfl ?_
        refine x_icmp_eq dX12_allClimb_17 23 20 rfl rfl (fun hc => ?_) (fun hc => ?_)
        · have h := h.1 hc
          refine x_aload_n dX12_allClimb_23 rfl 24 rfl ?_
          refine x_iload_n dX12_allClimb_24 rfl 25 rfl ?_
          refine kX12_nextBelow dX12_allClimb_25 28 rfl hk_l0 kw6_94 (Nat.le_of_ble_eq_true rfl) (Nat.le_of_ble_eq_true rfl) h (fun r7 h => ?_)
          refine x_istore_n dX12_allClimb_28 (Nat.le_of_ble_eq_true rfl) [(0, .ref l0), (1, .int l1), (2, .int r7)] rfl 29 rfl ?_
          refine x_iload_n dX12_allClimb_29 rfl 30 rfl ?_
          refine x_iconst dX12_allClimb_30 kc_m1 31 rfl ?_
          refine x_icmp_ne dX12_allClimb_31 47 34 rfl rfl (fun hc => ?_) (fun hc => ?_)
          · have h := h.1 hc
            exact nX12_allClimb_47 hB7 hk_l0 h
          · have h := h.2 hc
            refine x_aload_n dX12_allClimb_34 rfl 35 rfl ?_
            refine gf12_1 dX12_allClimb_35 38 rfl hk_l0 kw5_160 ?_
            refine x_bipush dX12_allClimb_38 kb_6 40 rfl ?_
            refine x_iaload dX12_allClimb_40 (ly12_1 hk_l0) (by unfold vp_in; decide) 41 rfl ?_
            refine x_if_ne dX12_allClimb_41 47 44 rfl rfl (fun hc => ?_) (fun hc => ?_)
            · have h := h.1 hc
              exact nX12_allClimb_47 hB7 hk_l0 h
            · have h := h.2 hc
              refine x_goto dX12_allClimb_44 110 rfl ?_
              refine x_iinc dX12_allClimb_110 rfl (congrArg (l1 + ·) kc_m1) (Nat.le_of_ble_eq_true rfl) [(0, .ref l0), (1, .int (l1 + (-1))), (2, .int r7)] rfl 113 rfl ?_
              refine x_goto dX12_allClimb_113 7 rfl ?_
              refine x_weak [(0, .ref l0), (1, .int (l1 + (-1)))] [0, 1] rfl ?_
              exact hB7 _ _ h
        · have h := h.2 hc
          refine x_goto dX12_allClimb_20 110 rfl ?_
          refine x_iinc dX12_allClimb_110 rfl (congrArg (l1 + ·) kc_m1) (Nat.le_of_ble_eq_true rfl) [(0, .ref l0), (1, .int (l1 + (-1)))] rfl 113 rfl ?_
          refine x_goto dX12_allClimb_113 7 rfl ?_
          exact hB7 _ _ h
  exact hB7 n l1 M h
def FX12_allClimb (Q : Mem → Prop) (l0 : Nat) (M : Mem) : Prop :=
  NX12_allClimb_7 Q l0 ((M l0 6) - 1) M
theorem eX12_allClimb {Q : Mem → Prop} {l0 : Nat} {M : Mem} (hk_l0 : SHk l0 = 12) (h : FX12_allClimb Q l0 M) : xX RX12 cX12_allClimb 4 none 3 0 [(0, .ref l0)] [] M (xQv Q) := by
  unfold FX12_allClimb at h
  refine x_aload_n dX12_allClimb_0 rfl 1 rfl ?_
  refine gf12_6 dX12_allClimb_1 4 rfl hk_l0 kw5_165 ?_
  refine x_iconst dX12_allClimb_4 kc_1 5 rfl ?_
  refine x_isub dX12_allClimb_5 6 rfl ?_
  refine x_istore_n dX12_allClimb_6 (Nat.le_of_ble_eq_true rfl) [(0, .ref l0), (1, .int ((M l0 6) - 1))] rfl 7 rfl ?_
  exact nX12_allClimb_7 hk_l0 h
theorem cX12_allClimb_ {Q : Mem → Prop} {l0 : Nat} {M : Mem} (hk_l0 : SHk l0 = 12) (h : FX12_allClimb Q l0 M) : xM yX12_allClimb cX12_allClimb 4 none 3 [.ref l0] M (xQv Q) := xM_of (by decide +kernel) (Nat.le_of_ble_eq_true rfl) (eX12_allClimb hk_l0 h)
theorem kX12_allClimb {own : String} {cc : ByteArray} {nL : Nat} {rt : Option FieldType} {d pc ix : Nat} {L : List (Nat × Value)} {st : List Value} {M : Mem} {Rt : xGt → Array Value → State → Outcome → State → Prop} {Q : Mem → Prop} {l0 : Nat} (hd : decode cc pc = .ok (.invokevirtual ix, 3)) (q : Nat) (hq : pc + 3 = q) (hk_l0 : SHk l0 = 12) (w1 : Cond.methodLink own ix yX12_allClimb ∈ xTs) (hr : 3 < d) (hst : (st.map fun v => v.category).sum ≤ 8) (h : FX12_allClimb Q l0 M) (k : ∀ (N : Mem), Q N → xX own cc nL rt d q L st N Rt) : xX own cc nL rt d pc L (.ref l0 :: st) M Rt :=
  x_callV_v (n := 0) (As := []) hd q hq hk_l0 (by decide) rfl rfl w1 kw6_88 ks3_2 kw1_14 kw6_89 (by decide +kernel) rfl hr (by decide) hst _ rfl (cX12_allClimb_ hk_l0 h) k
def FX12_pillar (Q : Int32 → Mem → Prop) (l0 : Nat) (l1 : Int32) (M : Mem) : Prop :=
  ∀ M1 : Mem, M1 = xu M l0 0 0 → FX12_isIn (fun (r2 : Bool) => ((r2 = false → Q (-1) M1) ∧ (r2 = true → ((¬ (M1 l0 6) = 10 → vp_in (63 + (M1 l0 6)) 107 ∧ ∀ M3 : Mem, M3 = xu M1 (l0 + 1) (ix (63 + (M1 l0 6))) l1 → vp_in (73 + (M3 l0 6)) 107 ∧ ∀ M4 : Mem, M4 = xu M3 (l0 + 1) (ix (73 + (M3 l0 6))) 0 → vp_in (83 + (M4 l0 6)) 107 ∧ ∀ M5 : Mem, M5 = xu M4 (l0 + 1) (ix (83 + (M4 l0 6))) 0 → ∀ M6 : Mem, M6 = xu M5 l0 6 ((M5 l0 6) + 1) → FX12_allClimb (fun (M7 : Mem) => ∀ M8 : Mem, M8 = xu M7 l0 3 0 → Q ((M8 l0 6) - 1) M8) l0 M6) ∧ ((M1 l0 6) = 10 → Q (-1) M1))))) l0 l1 1 99 M1
theorem eX12_pillar {Q : Int32 → Mem → Prop} {l0 : Nat} {l1 : Int32} {M : Mem} (hk_l0 : SHk l0 = 12) (h : FX12_pillar Q l0 l1 M) : xX RX12 cX12_pillar 2 (some .int) 4 0 [(0, .ref l0), (1, .int l1)] [] M (xQi Q) := by
  unfold FX12_pillar at h
  refine x_aload_n dX12_pillar_0 rfl 1 rfl ?_
  refine x_iconst dX12_pillar_1 kc_0 2 rfl ?_
  refine pf12_0 dX12_pillar_2 5 rfl hk_l0 kw5_159 (x_mem (fun M1 hM1 => ?_))
  have h := h M1 hM1
  refine x_aload_n dX12_pillar_5 rfl 6 rfl ?_
  refine x_iload_n dX12_pillar_6 rfl 7 rfl ?_
  refine x_iconst dX12_pillar_7 kc_1 8 rfl ?_
  refine x_bipush dX12_pillar_8 kb_99 10 rfl ?_
  refine kX12_isIn dX12_pillar_10 13 rfl hk_l0 kw6_82 (Nat.le_of_ble_eq_true rfl) (Nat.le_of_ble_eq_true rfl) h (fun r2 h => ?_)
  refine x_if_eq_b dX12_pillar_13 25 16 rfl rfl (fun hc => ?_) (fun hc => ?_)
  · have h := h.1 hc
    refine x_iconst dX12_pillar_25 kc_m1 26 rfl ?_
    exact x_iret dX12_pillar_26 h
  · have h := h.2 hc
    refine x_aload_n dX12_pillar_16 rfl 17 rfl ?_
    refine gf12_6 dX12_pillar_17 20 rfl hk_l0 kw5_165 ?_
    refine x_bipush dX12_pillar_20 kb_10 22 rfl ?_
    refine x_icmp_ne dX12_pillar_22 27 25 rfl rfl (fun hc => ?_) (fun hc => ?_)
    · have h := h.1 hc
      refine x_aload_n dX12_pillar_27 rfl 28 rfl ?_
      refine gf12_1 dX12_pillar_28 31 rfl hk_l0 kw5_160 ?_
      refine x_bipush dX12_pillar_31 kb_63 33 rfl ?_
      refine x_aload_n dX12_pillar_33 rfl 34 rfl ?_
      refine gf12_6 dX12_pillar_34 37 rfl hk_l0 kw5_165 ?_
      refine x_iadd dX12_pillar_37 38 rfl ?_
      refine x_iload_n dX12_pillar_38 rfl 39 rfl ?_
      obtain ⟨hin, h⟩ := h
      refine x_iastore dX12_pillar_39 (ly12_1 hk_l0) hin 40 rfl (x_mem (fun M3 hM3 => ?_))
      have h := h M3 hM3
      refine x_aload_n dX12_pillar_40 rfl 41 rfl ?_
      refine gf12_1 dX12_pillar_41 44 rfl hk_l0 kw5_160 ?_
      refine x_bipush dX12_pillar_44 kb_73 46 rfl ?_
      refine x_aload_n dX12_pillar_46 rfl 47 rfl ?_
      refine gf12_6 dX12_pillar_47 50 rfl hk_l0 kw5_165 ?_
      refine x_iadd dX12_pillar_50 51 rfl ?_
      refine x_iconst dX12_pillar_51 kc_0 52 rfl ?_
      obtain ⟨hin, h⟩ := h
      refine x_iastore dX12_pillar_52 (ly12_1 hk_l0) hin 53 rfl (x_mem (fun M4 hM4 => ?_))
      have h := h M4 hM4
      refine x_aload_n dX12_pillar_53 rfl 54 rfl ?_
      refine gf12_1 dX12_pillar_54 57 rfl hk_l0 kw5_160 ?_
      refine x_bipush dX12_pillar_57 kb_83 59 rfl ?_
      refine x_aload_n dX12_pillar_59 rfl 60 rfl ?_
      refine gf12_6 dX12_pillar_60 63 rfl hk_l0 kw5_165 ?_
      refine x_iadd dX12_pillar_63 64 rfl ?_
      refine x_iconst dX12_pillar_64 kc_0 65 rfl ?_
      obtain ⟨hin, h⟩ := h
      refine x_iastore dX12_pillar_65 (ly12_1 hk_l0) hin 66 rfl (x_mem (fun M5 hM5 => ?_))
      have h := h M5 hM5
      refine x_aload_n dX12_pillar_66 rfl 67 rfl ?_
      refine x_aload_n dX12_pillar_67 rfl 68 rfl ?_
      refine gf12_6 dX12_pillar_68 71 rfl hk_l0 kw5_165 ?_
      refine x_iconst dX12_pillar_71 kc_1 72 rfl ?_
      refine x_iadd dX12_pillar_72 73 rfl ?_
      refine pf12_6 dX12_pillar_73 76 rfl hk_l0 kw5_165 (x_mem (fun M6 hM6 => ?_))
      have h := h M6 hM6
      refine x_aload_n dX12_pillar_76 rfl 77 rfl ?_
      refine kX12_allClimb dX12_pillar_77 80 rfl hk_l0 kw6_86 (Nat.le_of_ble_eq_true rfl) (Nat.le_of_ble_eq_true rfl) h (fun M7 h => ?_)
      refine x_aload_n dX12_pillar_80 rfl 81 rfl ?_
      refine x_iconst dX12_pillar_81 kc_0 82 rfl ?_
      refine pf12_3 dX12_pillar_82 85 rfl hk_l0 kw5_162 (x_mem (fun M8 hM8 => ?_))
      have h := h M8 hM8
      refine x_aload_n dX12_pillar_85 rfl 86 rfl ?_
      refine gf12_6 dX12_pillar_86 89 rfl hk_l0 kw5_165 ?_
      refine x_iconst dX12_pillar_89 kc_1 90 rfl ?_
      refine x_isub dX12_pillar_90 91 rfl ?_
      exact x_iret dX12_pillar_91 h
    · have h := h.2 hc
      refine x_iconst dX12_pillar_25 kc_m1 26 rfl ?_
      exact x_iret dX12_pillar_26 h
theorem cX12_pillar_ {Q : Int32 → Mem → Prop} {l0 : Nat} {l1 : Int32} {M : Mem} (hk_l0 : SHk l0 = 12) (h : FX12_pillar Q l0 l1 M) : xM yX12_pillar cX12_pillar 2 (some .int) 4 [.ref l0, .int l1] M (xQi Q) := xM_of (by decide +kernel) (Nat.le_of_ble_eq_true rfl) (eX12_pillar hk_l0 h)
theorem kX12_pillar {own : String} {cc : ByteArray} {nL : Nat} {rt : Option FieldType} {d pc ix : Nat} {L : List (Nat × Value)} {st : List Value} {M : Mem} {Rt : xGt → Array Value → State → Outcome → State → Prop} {Q : Int32 → Mem → Prop} {l0 : Nat} {l1 : Int32} (hd : decode cc pc = .ok (.invokevirtual ix, 3)) (q : Nat) (hq : pc + 3 = q) (hk_l0 : SHk l0 = 12) (w1 : Cond.methodLink own ix yX12_pillar ∈ xTs) (hr : 4 < d) (hst : (st.map fun v => v.category).sum ≤ 8) (h : FX12_pillar Q l0 l1 M) (k : ∀ (r : Int32) (N : Mem), Q r N → xX own cc nL rt d q L (.int r :: st) N Rt) : xX own cc nL rt d pc L (.int l1 :: .ref l0 :: st) M Rt :=
  x_callV_i (n := 1) (As := [.int l1]) hd q hq hk_l0 (by decide) rfl rfl w1 kw6_79 kw6_80 kw1_14 kw6_81 (by decide +kernel) rfl hr (by decide) hst _ rfl (cX12_pillar_ hk_l0 h) k
def FX12_saint (Q : Int32 → Mem → Prop) (l0 : Nat) (l1 : Int32) (l2 : Int32) (l3 : Int32) (M : Mem) : Prop :=
  ∀ M1 : Mem, M1 = xu M l0 0 0 → FX12_isIn (fun (r2 : Bool) => ((r2 = false → Q (-1) M1) ∧ (r2 = true → FX12_isIn (fun (r3 : Bool) => ((r3 = false → Q (-1) M1) ∧ (r3 = true → FX12_isIn (fun (r4 : Bool) => ((r4 = false → Q (-1) M1) ∧ (r4 = true → ((¬ (M1 l0 7) = 14 → vp_in (7 + (M1 l0 7)) 107 ∧ ∀ M5 : Mem, M5 = xu M1 (l0 + 1) (ix (7 + (M1 l0 7))) l1 → vp_in (21 + (M5 l0 7)) 107 ∧ ∀ M6 : Mem, M6 = xu M5 (l0 + 1) (ix (21 + (M5 l0 7))) l3 → vp_in (35 + (M6 l0 7)) 107 ∧ ∀ M7 : Mem, M7 = xu M6 (l0 + 1) (ix (35 + (M6 l0 7))) 0 → vp_in (49 + (M7 l0 7)) 107 ∧ ∀ M8 : Mem, M8 = xu M7 (l0 + 1) (ix (49 + (M7 l0 7))) 0 → vp_in (M8 l0 7) 14 ∧ ∀ M9 : Mem, M9 = xu M8 (l0 + 4) (ix (M8 l0 7)) l2 → FX12_comesBehind (fun (M10 : Mem) => ∀ M11 : Mem, M11 = xu M10 l0 7 ((M10 l0 7) + 1) → FX12_allClimb (fun (M12 : Mem) => ∀ M13 : Mem, M13 = xu M12 l0 3 0 → Q ((M13 l0 7) - 1) M13) l0 M11) l0 (M9 l0 7) M9) ∧ ((M1 l0 7) = 14 → Q (-1) M1))))) l0 l3 (-99) 99 M1))) l0 l2 0 9 M1))) l0 l1 0 120 M1
theorem eX12_saint {Q : Int32 → Mem → Prop} {l0 : Nat} {l1 : Int32} {l2 : Int32} {l3 : Int32} {M : Mem} (hk_l0 : SHk l0 = 12) (h : FX12_saint Q l0 l1 l2 l3 M) : xX RX12 cX12_saint 4 (some .int) 4 0 [(0, .ref l0), (1, .int l1), (2, .int l2), (3, .int l3)] [] M (xQi Q) := by
  unfold FX12_saint at h
  refine x_aload_n dX12_saint_0 rfl 1 rfl ?_
  refine x_iconst dX12_saint_1 kc_0 2 rfl ?_
  refine pf12_0 dX12_saint_2 5 rfl hk_l0 kw5_159 (x_mem (fun M1 hM1 => ?_))
  have h := h M1 hM1
  refine x_aload_n dX12_saint_5 rfl 6 rfl ?_
  refine x_iload_n dX12_saint_6 rfl 7 rfl ?_
  refine x_iconst dX12_saint_7 kc_0 8 rfl ?_
  refine x_bipush dX12_saint_8 kb_120 10 rfl ?_
  refine kX12_isIn dX12_saint_10 13 rfl hk_l0 kw6_82 (Nat.le_of_ble_eq_true rfl) (Nat.le_of_ble_eq_true rfl) h (fun r2 h => ?_)
  refine x_if_eq_b dX12_saint_13 48 16 rfl rfl (fun hc => ?_) (fun hc => ?_)
  · have h := h.1 hc
    refine x_iconst dX12_saint_48 kc_m1 49 rfl ?_
    exact x_iret dX12_saint_49 h
  · have h := h.2 hc
    refine x_aload_n dX12_saint_16 rfl 17 rfl ?_
    refine x_iload_n dX12_saint_17 rfl 18 rfl ?_
    refine x_iconst dX12_saint_18 kc_0 19 rfl ?_
    refine x_bipush dX12_saint_19 kb_9 21 rfl ?_
    refine kX12_isIn dX12_saint_21 24 rfl hk_l0 kw6_82 (Nat.le_of_ble_eq_true rfl) (Nat.le_of_ble_eq_true rfl) h (fun r3 h => ?_)
    refine x_if_eq_b dX12_saint_24 48 27 rfl rfl (fun hc => ?_) (fun hc => ?_)
    · have h := h.1 hc
      refine x_iconst dX12_saint_48 kc_m1 49 rfl ?_
      exact x_iret dX12_saint_49 h
    · have h := h.2 hc
      refine x_aload_n dX12_saint_27 rfl 28 rfl ?_
      refine x_iload_n dX12_saint_28 rfl 29 rfl ?_
      refine x_bipush dX12_saint_29 kb_m99 31 rfl ?_
      refine x_bipush dX12_saint_31 kb_99 33 rfl ?_
      refine kX12_isIn dX12_saint_33 36 rfl hk_l0 kw6_82 (Nat.le_of_ble_eq_true rfl) (Nat.le_of_ble_eq_true rfl) h (fun r4 h => ?_)
      refine x_if_eq_b dX12_saint_36 48 39 rfl rfl (fun hc => ?_) (fun hc => ?_)
      · have h := h.1 hc
        refine x_iconst dX12_saint_48 kc_m1 49 rfl ?_
        exact x_iret dX12_saint_49 h
      · have h := h.2 hc
        refine x_aload_n dX12_saint_39 rfl 40 rfl ?_
        refine gf12_7 dX12_saint_40 43 rfl hk_l0 kw5_166 ?_
        refine x_bipush dX12_saint_43 kb_14 45 rfl ?_
        refine x_icmp_ne dX12_saint_45 50 48 rfl rfl (fun hc => ?_) (fun hc => ?_)
        · have h := h.1 hc
          refine x_aload_n dX12_saint_50 rfl 51 rfl ?_
          refine gf12_1 dX12_saint_51 54 rfl hk_l0 kw5_160 ?_
          refine x_bipush dX12_saint_54 kb_7 56 rfl ?_
          refine x_aload_n dX12_saint_56 rfl 57 rfl ?_
          refine gf12_7 dX12_saint_57 60 rfl hk_l0 kw5_166 ?_
          refine x_iadd dX12_saint_60 61 rfl ?_
          refine x_iload_n dX12_saint_61 rfl 62 rfl ?_
          obtain ⟨hin, h⟩ := h
          refine x_iastore dX12_saint_62 (ly12_1 hk_l0) hin 63 rfl (x_mem (fun M5 hM5 => ?_))
          have h := h M5 hM5
          refine x_aload_n dX12_saint_63 rfl 64 rfl ?_
          refine gf12_1 dX12_saint_64 67 rfl hk_l0 kw5_160 ?_
          refine x_bipush dX12_saint_67 kb_21 69 rfl ?_
          refine x_aload_n dX12_saint_69 rfl 70 rfl ?_
          refine gf12_7 dX12_saint_70 73 rfl hk_l0 kw5_166 ?_
          refine x_iadd dX12_saint_73 74 rfl ?_
          refine x_iload_n dX12_saint_74 rfl 75 rfl ?_
          obtain ⟨hin, h⟩ := h
          refine x_iastore dX12_saint_75 (ly12_1 hk_l0) hin 76 rfl (x_mem (fun M6 hM6 => ?_))
          have h := h M6 hM6
          refine x_aload_n dX12_saint_76 rfl 77 rfl ?_
          refine gf12_1 dX12_saint_77 80 rfl hk_l0 kw5_160 ?_
          refine x_bipush dX12_saint_80 kb_35 82 rfl ?_
          refine x_aload_n dX12_saint_82 rfl 83 rfl ?_
          refine gf12_7 dX12_saint_83 86 rfl hk_l0 kw5_166 ?_
          refine x_iadd dX12_saint_86 87 rfl ?_
          refine x_iconst dX12_saint_87 kc_0 88 rfl ?_
          obtain ⟨hin, h⟩ := h
          refine x_iastore dX12_saint_88 (ly12_1 hk_l0) hin 89 rfl (x_mem (fun M7 hM7 => ?_))
          have h := h M7 hM7
          refine x_aload_n dX12_saint_89 rfl 90 rfl ?_
          refine gf12_1 dX12_saint_90 93 rfl hk_l0 kw5_160 ?_
          refine x_bipush dX12_saint_93 kb_49 95 rfl ?_
          refine x_aload_n dX12_saint_95 rfl 96 rfl ?_
          refine gf12_7 dX12_saint_96 99 rfl hk_l0 kw5_166 ?_
          refine x_iadd dX12_saint_99 100 rfl ?_
          refine x_iconst dX12_saint_100 kc_0 101 rfl ?_
          obtain ⟨hin, h⟩ := h
          refine x_iastore dX12_saint_101 (ly12_1 hk_l0) hin 102 rfl (x_mem (fun M8 hM8 => ?_))
          have h := h M8 hM8
          refine x_aload_n dX12_saint_102 rfl 103 rfl ?_
          refine gf12_8 dX12_saint_103 106 rfl hk_l0 kw5_167 ?_
          refine x_aload_n dX12_saint_106 rfl 107 rfl ?_
          refine gf12_7 dX12_saint_107 110 rfl hk_l0 kw5_166 ?_
          refine x_iload_n dX12_saint_110 rfl 111 rfl ?_
          obtain ⟨hin, h⟩ := h
          refine x_iastore dX12_saint_111 (ly12_8 hk_l0) hin 112 rfl (x_mem (fun M9 hM9 => ?_))
          have h := h M9 hM9
          refine x_aload_n dX12_saint_112 rfl 113 rfl ?_
          refine x_aload_n dX12_saint_113 rfl 114 rfl ?_
          refine gf12_7 dX12_saint_114 117 rfl hk_l0 kw5_166 ?_
          refine kX12_comesBehind dX12_saint_117 120 rfl hk_l0 kw6_110 (Nat.le_of_ble_eq_true rfl) (Nat.le_of_ble_eq_true rfl) h (fun M10 h => ?_)
          refine x_aload_n dX12_saint_120 rfl 121 rfl ?_
          refine x_aload_n dX12_saint_121 rfl 122 rfl ?_
          refine gf12_7 dX12_saint_122 125 rfl hk_l0 kw5_166 ?_
          refine x_iconst dX12_saint_125 kc_1 126 rfl ?_
          refine x_iadd dX12_saint_126 127 rfl ?_
          refine pf12_7 dX12_saint_127 130 rfl hk_l0 kw5_166 (x_mem (fun M11 hM11 => ?_))
          have h := h M11 hM11
          refine x_aload_n dX12_saint_130 rfl 131 rfl ?_
          refine kX12_allClimb dX12_saint_131 134 rfl hk_l0 kw6_86 (Nat.le_of_ble_eq_true rfl) (Nat.le_of_ble_eq_true rfl) h (fun M12 h => ?_)
          refine x_aload_n dX12_saint_134 rfl 135 rfl ?_
          refine x_iconst dX12_saint_135 kc_0 136 rfl ?_
          refine pf12_3 dX12_saint_136 139 rfl hk_l0 kw5_162 (x_mem (fun M13 hM13 => ?_))
          have h := h M13 hM13
          refine x_aload_n dX12_saint_139 rfl 140 rfl ?_
          refine gf12_7 dX12_saint_140 143 rfl hk_l0 kw5_166 ?_
          refine x_iconst dX12_saint_143 kc_1 144 rfl ?_
          refine x_isub dX12_saint_144 145 rfl ?_
          exact x_iret dX12_saint_145 h
        · have h := h.2 hc
          refine x_iconst dX12_saint_48 kc_m1 49 rfl ?_
          exact x_iret dX12_saint_49 h
theorem cX12_saint_ {Q : Int32 → Mem → Prop} {l0 : Nat} {l1 : Int32} {l2 : Int32} {l3 : Int32} {M : Mem} (hk_l0 : SHk l0 = 12) (h : FX12_saint Q l0 l1 l2 l3 M) : xM yX12_saint cX12_saint 4 (some .int) 4 [.ref l0, .int l1, .int l2, .int l3] M (xQi Q) := xM_of (by decide +kernel) (Nat.le_of_ble_eq_true rfl) (eX12_saint hk_l0 h)
theorem kX12_saint {own : String} {cc : ByteArray} {nL : Nat} {rt : Option FieldType} {d pc ix : Nat} {L : List (Nat × Value)} {st : List Value} {M : Mem} {Rt : xGt → Array Value → State → Outcome → State → Prop} {Q : Int32 → Mem → Prop} {l0 : Nat} {l1 : Int32} {l2 : Int32} {l3 : Int32} (hd : decode cc pc = .ok (.invokevirtual ix, 3)) (q : Nat) (hq : pc + 3 = q) (hk_l0 : SHk l0 = 12) (w1 : Cond.methodLink own ix yX12_saint ∈ xTs) (hr : 4 < d) (hst : (st.map fun v => v.category).sum ≤ 8) (h : FX12_saint Q l0 l1 l2 l3 M) (k : ∀ (r : Int32) (N : Mem), Q r N → xX own cc nL rt d q L (.int r :: st) N Rt) : xX own cc nL rt d pc L (.int l3 :: .int l2 :: .int l1 :: .ref l0 :: st) M Rt :=
  x_callV_i (n := 3) (As := [.int l1, .int l2, .int l3]) hd q hq hk_l0 (by decide) rfl rfl w1 kw6_107 kw6_108 kw1_14 kw6_109 (by decide +kernel) rfl hr (by decide) hst _ rfl (cX12_saint_ hk_l0 h) k
def NX12_canSet_87 (Q : Bool → Prop) (s0 : Nat) (s1 : Int32) (s2 : Int32) (s3 : Int32) (M : Mem) : Prop :=
  FX12_isIn (fun (r1 : Bool) => ((r1 = false → Q false) ∧ (r1 = true → Q true))) s0 s1 s2 s3 M
theorem nX12_canSet_87 {Q : Bool → Prop} {s0 : Nat} {s1 : Int32} {s2 : Int32} {s3 : Int32} {M : Mem} (hk_s0 : SHk s0 = 12) (h : NX12_canSet_87 Q s0 s1 s2 s3 M) : xX RX12 cX12_canSet 4 (some .boolean) 2 87 [] [.int s3, .int s2, .int s1, .ref s0] M (xQb (xP M Q)) := by
  unfold NX12_canSet_87 at h
  refine kX12_isIn dX12_canSet_87 90 rfl hk_s0 kw6_82 (Nat.le_of_ble_eq_true rfl) (Nat.le_of_ble_eq_true rfl) h (fun r1 h => ?_)
  refine x_if_eq_b dX12_canSet_90 97 93 rfl rfl (fun hc => ?_) (fun hc => ?_)
  · have h := h.1 hc
    refine x_iconst dX12_canSet_97 kc_0 98 rfl ?_
    exact x_zret (z := false) dX12_canSet_98 ⟨rfl, h⟩
  · have h := h.2 hc
    refine x_iconst dX12_canSet_93 kc_1 94 rfl ?_
    refine x_goto dX12_canSet_94 98 rfl ?_
    exact x_zret (z := true) dX12_canSet_98 ⟨rfl, h⟩
def FX12_canSet (Q : Bool → Prop) (l0 : Nat) (l1 : Int32) (l2 : Int32) (l3 : Int32) (M : Mem) : Prop :=
  ((¬ l1 = 4 → ((¬ l1 = 2 → FX12_isIn (fun (r2 : Bool) => ((r2 = false → Q false) ∧ (r2 = true → FX12_isSaint (fun (r3 : Bool) => ((r3 = false → Q false) ∧ (r3 = true → ((¬ l1 = 0 → ((¬ l1 = 1 → NX12_canSet_87 Q l0 l3 0 99 M) ∧ (l1 = 1 → NX12_canSet_87 Q l0 l3 0 9 M))) ∧ (l1 = 0 → NX12_canSet_87 Q l0 l3 0 120 M))))) l0 l2 M))) l0 l1 0 3 M) ∧ (l1 = 2 → FX12_isSaint (fun (r4 : Bool) => ((r4 = false → Q false) ∧ (r4 = true → FX12_isIn (fun (r5 : Bool) => ((r5 = false → Q false) ∧ (r5 = true → Q true))) l0 l3 (-99) 99 M))) l0 l2 M))) ∧ (l1 = 4 → FX12_isIn (fun (r6 : Bool) => Q r6) l0 l3 0 9 M))
theorem eX12_canSet {Q : Bool → Prop} {l0 : Nat} {l1 : Int32} {l2 : Int32} {l3 : Int32} {M : Mem} (hk_l0 : SHk l0 = 12) (h : FX12_canSet Q l0 l1 l2 l3 M) : xX RX12 cX12_canSet 4 (some .boolean) 2 0 [(0, .ref l0), (1, .int l1), (2, .int l2), (3, .int l3)] [] M (xQb (xP M Q)) := by
  unfold FX12_canSet at h
  refine x_iload_n dX12_canSet_0 rfl 1 rfl ?_
  refine x_iconst dX12_canSet_1 kc_4 2 rfl ?_
  refine x_icmp_ne dX12_canSet_2 14 5 rfl rfl (fun hc => ?_) (fun hc => ?_)
  · have h := h.1 hc
    refine x_iload_n dX12_canSet_14 rfl 15 rfl ?_
    refine x_iconst dX12_canSet_15 kc_2 16 rfl ?_
    refine x_icmp_ne dX12_canSet_16 45 19 rfl rfl (fun hc => ?_) (fun hc => ?_)
    · have h := h.1 hc
      refine x_aload_n dX12_canSet_45 rfl 46 rfl ?_
      refine x_iload_n dX12_canSet_46 rfl 47 rfl ?_
      refine x_iconst dX12_canSet_47 kc_0 48 rfl ?_
      refine x_iconst dX12_canSet_48 kc_3 49 rfl ?_
      refine kX12_isIn dX12_canSet_49 52 rfl hk_l0 kw6_82 (Nat.le_of_ble_eq_true rfl) (Nat.le_of_ble_eq_true rfl) h (fun r2 h => ?_)
      refine x_if_eq_b dX12_canSet_52 97 55 rfl rfl (fun hc => ?_) (fun hc => ?_)
      · have h := h.1 hc
        refine x_iconst dX12_canSet_97 kc_0 98 rfl ?_
        exact x_zret (z := false) dX12_canSet_98 ⟨rfl, h⟩
      · have h := h.2 hc
        refine x_aload_n dX12_canSet_55 rfl 56 rfl ?_
        refine x_iload_n dX12_canSet_56 rfl 57 rfl ?_
        refine kX12_isSaint dX12_canSet_57 60 rfl hk_l0 kw6_122 (Nat.le_of_ble_eq_true rfl) (Nat.le_of_ble_eq_true rfl) h (fun r3 h => ?_)
        refine x_if_eq_b dX12_canSet_60 97 63 rfl rfl (fun hc => ?_) (fun hc => ?_)
        · have h := h.1 hc
          refine x_iconst dX12_canSet_97 kc_0 98 rfl ?_
          exact x_zret (z := false) dX12_canSet_98 ⟨rfl, h⟩
        · have h := h.2 hc
          refine x_aload_n dX12_canSet_63 rfl 64 rfl ?_
          refine x_iload_n dX12_canSet_64 rfl 65 rfl ?_
          refine x_iconst dX12_canSet_65 kc_0 66 rfl ?_
          refine x_iload_n dX12_canSet_66 rfl 67 rfl ?_
          refine x_if_ne dX12_canSet_67 75 70 rfl rfl (fun hc => ?_) (fun hc => ?_)
          · have h := h.1 hc
            refine x_iload_n dX12_canSet_75 rfl 76 rfl ?_
            refine x_iconst dX12_canSet_76 kc_1 77 rfl ?_
            refine x_icmp_ne dX12_canSet_77 85 80 rfl rfl (fun hc => ?_) (fun hc => ?_)
            · have h := h.1 hc
              refine x_bipush dX12_canSet_85 kb_99 87 rfl ?_
              refine x_weak [] [] rfl ?_
              exact nX12_canSet_87 hk_l0 h
            · have h := h.2 hc
              refine x_bipush dX12_canSet_80 kb_9 82 rfl ?_
              refine x_goto dX12_canSet_82 87 rfl ?_
              refine x_weak [] [] rfl ?_
              exact nX12_canSet_87 hk_l0 h
          · have h := h.2 hc
            refine x_bipush dX12_canSet_70 kb_120 72 rfl ?_
            refine x_goto dX12_canSet_72 87 rfl ?_
            refine x_weak [] [] rfl ?_
            exact nX12_canSet_87 hk_l0 h
    · have h := h.2 hc
      refine x_aload_n dX12_canSet_19 rfl 20 rfl ?_
      refine x_iload_n dX12_canSet_20 rfl 21 rfl ?_
      refine kX12_isSaint dX12_canSet_21 24 rfl hk_l0 kw6_122 (Nat.le_of_ble_eq_true rfl) (Nat.le_of_ble_eq_true rfl) h (fun r4 h => ?_)
      refine x_if_eq_b dX12_canSet_24 43 27 rfl rfl (fun hc => ?_) (fun hc => ?_)
      · have h := h.1 hc
        refine x_iconst dX12_canSet_43 kc_0 44 rfl ?_
        exact x_zret (z := false) dX12_canSet_44 ⟨rfl, h⟩
      · have h := h.2 hc
        refine x_aload_n dX12_canSet_27 rfl 28 rfl ?_
        refine x_iload_n dX12_canSet_28 rfl 29 rfl ?_
        refine x_bipush dX12_canSet_29 kb_m99 31 rfl ?_
        refine x_bipush dX12_canSet_31 kb_99 33 rfl ?_
        refine kX12_isIn dX12_canSet_33 36 rfl hk_l0 kw6_82 (Nat.le_of_ble_eq_true rfl) (Nat.le_of_ble_eq_true rfl) h (fun r5 h => ?_)
        refine x_if_eq_b dX12_canSet_36 43 39 rfl rfl (fun hc => ?_) (fun hc => ?_)
        · have h := h.1 hc
          refine x_iconst dX12_canSet_43 kc_0 44 rfl ?_
          exact x_zret (z := false) dX12_canSet_44 ⟨rfl, h⟩
        · have h := h.2 hc
          refine x_iconst dX12_canSet_39 kc_1 40 rfl ?_
          refine x_goto dX12_canSet_40 44 rfl ?_
          exact x_zret (z := true) dX12_canSet_44 ⟨rfl, h⟩
  · have h := h.2 hc
    refine x_aload_n dX12_canSet_5 rfl 6 rfl ?_
    refine x_iload_n dX12_canSet_6 rfl 7 rfl ?_
    refine x_iconst dX12_canSet_7 kc_0 8 rfl ?_
    refine x_bipush dX12_canSet_8 kb_9 10 rfl ?_
    refine kX12_isIn dX12_canSet_10 13 rfl hk_l0 kw6_82 (Nat.le_of_ble_eq_true rfl) (Nat.le_of_ble_eq_true rfl) h (fun r6 h => ?_)
    exact x_zret dX12_canSet_13 ⟨rfl, h⟩
theorem cX12_canSet_ {Q : Bool → Prop} {l0 : Nat} {l1 : Int32} {l2 : Int32} {l3 : Int32} {M : Mem} (hk_l0 : SHk l0 = 12) (h : FX12_canSet Q l0 l1 l2 l3 M) : xM yX12_canSet cX12_canSet 4 (some .boolean) 2 [.ref l0, .int l1, .int l2, .int l3] M (xQb (xP M Q)) := xM_of (by decide +kernel) (Nat.le_of_ble_eq_true rfl) (eX12_canSet hk_l0 h)
theorem kX12_canSet {own : String} {cc : ByteArray} {nL : Nat} {rt : Option FieldType} {d pc ix : Nat} {L : List (Nat × Value)} {st : List Value} {M : Mem} {Rt : xGt → Array Value → State → Outcome → State → Prop} {Q : Bool → Prop} {l0 : Nat} {l1 : Int32} {l2 : Int32} {l3 : Int32} (hd : decode cc pc = .ok (.invokevirtual ix, 3)) (q : Nat) (hq : pc + 3 = q) (hk_l0 : SHk l0 = 12) (w1 : Cond.methodLink own ix yX12_canSet ∈ xTs) (hr : 2 < d) (hst : (st.map fun v => v.category).sum ≤ 8) (h : FX12_canSet Q l0 l1 l2 l3 M) (k : ∀ (r : Bool), Q r → xX own cc nL rt d q L (.int (bI r) :: st) M Rt) : xX own cc nL rt d pc L (.int l3 :: .int l2 :: .int l1 :: .ref l0 :: st) M Rt :=
  x_callV_b (n := 3) (As := [.int l1, .int l2, .int l3]) hd q hq hk_l0 (by decide) rfl rfl w1 kw6_120 ks3_8 kw1_14 kw6_121 (by decide +kernel) rfl hr (by decide) hst _ rfl (cX12_canSet_ hk_l0 h) (fun r N hN => by obtain ⟨rfl, hN⟩ := hN; exact k r hN)
def NX12_set_85 (Q : Bool → Mem → Prop) (l0 : Nat) (M : Mem) : Prop :=
  ∀ M1 : Mem, M1 = xu M l0 3 0 → Q true M1
theorem nX12_set_85 {Q : Bool → Mem → Prop} {l0 : Nat} {M : Mem} (hk_l0 : SHk l0 = 12) (h : NX12_set_85 Q l0 M) : xX RX12 cX12_set 4 (some .boolean) 3 85 [(0, .ref l0)] [] M (xQb Q) := by
  unfold NX12_set_85 at h
  refine x_aload_n dX12_set_85 rfl 86 rfl ?_
  refine x_iconst dX12_set_86 kc_0 87 rfl ?_
  refine pf12_3 dX12_set_87 90 rfl hk_l0 kw5_162 (x_mem (fun M1 hM1 => ?_))
  have h := h M1 hM1
  refine x_iconst dX12_set_90 kc_1 91 rfl ?_
  exact x_zret (z := true) dX12_set_91 h
def NX12_set_73 (Q : Bool → Mem → Prop) (l0 : Nat) (l1 : Int32) (l3 : Int32) (M : Mem) : Prop :=
  ((¬ l1 = 4 → NX12_set_85 Q l0 M) ∧ (l1 = 4 → ∀ M2 : Mem, M2 = xu M (l0 + 1) (5) l3 → NX12_set_85 Q l0 M2))
theorem nX12_set_73 {Q : Bool → Mem → Prop} {l0 : Nat} {l1 : Int32} {l3 : Int32} {M : Mem} (hk_l0 : SHk l0 = 12) (h : NX12_set_73 Q l0 l1 l3 M) : xX RX12 cX12_set 4 (some .boolean) 3 73 [(0, .ref l0), (1, .int l1), (3, .int l3)] [] M (xQb Q) := by
  unfold NX12_set_73 at h
  refine x_iload_n dX12_set_73 rfl 74 rfl ?_
  refine x_iconst dX12_set_74 kc_4 75 rfl ?_
  refine x_icmp_ne dX12_set_75 85 78 rfl rfl (fun hc => ?_) (fun hc => ?_)
  · have h := h.1 hc
    refine x_weak [(0, .ref l0)] [0] rfl ?_
    exact nX12_set_85 hk_l0 h
  · have h := h.2 hc
    refine x_aload_n dX12_set_78 rfl 79 rfl ?_
    refine gf12_1 dX12_set_79 82 rfl hk_l0 kw5_160 ?_
    refine x_iconst dX12_set_82 kc_5 83 rfl ?_
    refine x_iload_n dX12_set_83 rfl 84 rfl ?_
    refine x_iastore dX12_set_84 (ly12_1 hk_l0) (by unfold vp_in; decide) 85 rfl (x_mem (fun M2 hM2 => ?_))
    have h := h M2 hM2
    refine x_weak [(0, .ref l0)] [0] rfl ?_
    exact nX12_set_85 hk_l0 h
def NX12_set_58 (Q : Bool → Mem → Prop) (l0 : Nat) (l1 : Int32) (l2 : Int32) (l3 : Int32) (M : Mem) : Prop :=
  ((¬ l1 = 3 → NX12_set_73 Q l0 l1 l3 M) ∧ (l1 = 3 → vp_in (35 + l2) 107 ∧ ∀ M3 : Mem, M3 = xu M (l0 + 1) (ix (35 + l2)) l3 → NX12_set_73 Q l0 l1 l3 M3))
theorem nX12_set_58 {Q : Bool → Mem → Prop} {l0 : Nat} {l1 : Int32} {l2 : Int32} {l3 : Int32} {M : Mem} (hk_l0 : SHk l0 = 12) (h : NX12_set_58 Q l0 l1 l2 l3 M) : xX RX12 cX12_set 4 (some .boolean) 3 58 [(0, .ref l0), (1, .int l1), (2, .int l2), (3, .int l3)] [] M (xQb Q) := by
  unfold NX12_set_58 at h
  refine x_iload_n dX12_set_58 rfl 59 rfl ?_
  refine x_iconst dX12_set_59 kc_3 60 rfl ?_
  refine x_icmp_ne dX12_set_60 73 63 rfl rfl (fun hc => ?_) (fun hc => ?_)
  · have h := h.1 hc
    refine x_weak [(0, .ref l0), (1, .int l1), (3, .int l3)] [0, 1, 3] rfl ?_
    exact nX12_set_73 hk_l0 h
  · have h := h.2 hc
    refine x_aload_n dX12_set_63 rfl 64 rfl ?_
    refine gf12_1 dX12_set_64 67 rfl hk_l0 kw5_160 ?_
    refine x_bipush dX12_set_67 kb_35 69 rfl ?_
    refine x_iload_n dX12_set_69 rfl 70 rfl ?_
    refine x_iadd dX12_set_70 71 rfl ?_
    refine x_iload_n dX12_set_71 rfl 72 rfl ?_
    obtain ⟨hin, h⟩ := h
    refine x_iastore dX12_set_72 (ly12_1 hk_l0) hin 73 rfl (x_mem (fun M3 hM3 => ?_))
    have h := h M3 hM3
    refine x_weak [(0, .ref l0), (1, .int l1), (3, .int l3)] [0, 1, 3] rfl ?_
    exact nX12_set_73 hk_l0 h
def NX12_set_43 (Q : Bool → Mem → Prop) (l0 : Nat) (l1 : Int32) (l2 : Int32) (l3 : Int32) (M : Mem) : Prop :=
  ((¬ l1 = 2 → NX12_set_58 Q l0 l1 l2 l3 M) ∧ (l1 = 2 → vp_in (21 + l2) 107 ∧ ∀ M4 : Mem, M4 = xu M (l0 + 1) (ix (21 + l2)) l3 → NX12_set_58 Q l0 l1 l2 l3 M4))
theorem nX12_set_43 {Q : Bool → Mem → Prop} {l0 : Nat} {l1 : Int32} {l2 : Int32} {l3 : Int32} {M : Mem} (hk_l0 : SHk l0 = 12) (h : NX12_set_43 Q l0 l1 l2 l3 M) : xX RX12 cX12_set 4 (some .boolean) 3 43 [(0, .ref l0), (1, .int l1), (2, .int l2), (3, .int l3)] [] M (xQb Q) := by
  unfold NX12_set_43 at h
  refine x_iload_n dX12_set_43 rfl 44 rfl ?_
  refine x_iconst dX12_set_44 kc_2 45 rfl ?_
  refine x_icmp_ne dX12_set_45 58 48 rfl rfl (fun hc => ?_) (fun hc => ?_)
  · have h := h.1 hc
    exact nX12_set_58 hk_l0 h
  · have h := h.2 hc
    refine x_aload_n dX12_set_48 rfl 49 rfl ?_
    refine gf12_1 dX12_set_49 52 rfl hk_l0 kw5_160 ?_
    refine x_bipush dX12_set_52 kb_21 54 rfl ?_
    refine x_iload_n dX12_set_54 rfl 55 rfl ?_
    refine x_iadd dX12_set_55 56 rfl ?_
    refine x_iload_n dX12_set_56 rfl 57 rfl ?_
    obtain ⟨hin, h⟩ := h
    refine x_iastore dX12_set_57 (ly12_1 hk_l0) hin 58 rfl (x_mem (fun M4 hM4 => ?_))
    have h := h M4 hM4
    exact nX12_set_58 hk_l0 h
def NX12_set_31 (Q : Bool → Mem → Prop) (l0 : Nat) (l1 : Int32) (l2 : Int32) (l3 : Int32) (M : Mem) : Prop :=
  ((¬ l1 = 1 → NX12_set_43 Q l0 l1 l2 l3 M) ∧ (l1 = 1 → vp_in l2 14 ∧ ∀ M5 : Mem, M5 = xu M (l0 + 4) (ix l2) l3 → NX12_set_43 Q l0 l1 l2 l3 M5))
theorem nX12_set_31 {Q : Bool → Mem → Prop} {l0 : Nat} {l1 : Int32} {l2 : Int32} {l3 : Int32} {M : Mem} (hk_l0 : SHk l0 = 12) (h : NX12_set_31 Q l0 l1 l2 l3 M) : xX RX12 cX12_set 4 (some .boolean) 3 31 [(0, .ref l0), (1, .int l1), (2, .int l2), (3, .int l3)] [] M (xQb Q) := by
  unfold NX12_set_31 at h
  refine x_iload_n dX12_set_31 rfl 32 rfl ?_
  refine x_iconst dX12_set_32 kc_1 33 rfl ?_
  refine x_icmp_ne dX12_set_33 43 36 rfl rfl (fun hc => ?_) (fun hc => ?_)
  · have h := h.1 hc
    exact nX12_set_43 hk_l0 h
  · have h := h.2 hc
    refine x_aload_n dX12_set_36 rfl 37 rfl ?_
    refine gf12_8 dX12_set_37 40 rfl hk_l0 kw5_167 ?_
    refine x_iload_n dX12_set_40 rfl 41 rfl ?_
    refine x_iload_n dX12_set_41 rfl 42 rfl ?_
    obtain ⟨hin, h⟩ := h
    refine x_iastore dX12_set_42 (ly12_8 hk_l0) hin 43 rfl (x_mem (fun M5 hM5 => ?_))
    have h := h M5 hM5
    exact nX12_set_43 hk_l0 h
def FX12_set (Q : Bool → Mem → Prop) (l0 : Nat) (l1 : Int32) (l2 : Int32) (l3 : Int32) (M : Mem) : Prop :=
  ∀ M6 : Mem, M6 = xu M l0 0 0 → FX12_canSet (fun (r7 : Bool) => ((r7 = true → ((¬ l1 = 0 → NX12_set_31 Q l0 l1 l2 l3 M6) ∧ (l1 = 0 → vp_in (7 + l2) 107 ∧ ∀ M8 : Mem, M8 = xu M6 (l0 + 1) (ix (7 + l2)) l3 → NX12_set_31 Q l0 l1 l2 l3 M8))) ∧ (r7 = false → Q false M6))) l0 l1 l2 l3 M6
theorem eX12_set {Q : Bool → Mem → Prop} {l0 : Nat} {l1 : Int32} {l2 : Int32} {l3 : Int32} {M : Mem} (hk_l0 : SHk l0 = 12) (h : FX12_set Q l0 l1 l2 l3 M) : xX RX12 cX12_set 4 (some .boolean) 3 0 [(0, .ref l0), (1, .int l1), (2, .int l2), (3, .int l3)] [] M (xQb Q) := by
  unfold FX12_set at h
  refine x_aload_n dX12_set_0 rfl 1 rfl ?_
  refine x_iconst dX12_set_1 kc_0 2 rfl ?_
  refine pf12_0 dX12_set_2 5 rfl hk_l0 kw5_159 (x_mem (fun M6 hM6 => ?_))
  have h := h M6 hM6
  refine x_aload_n dX12_set_5 rfl 6 rfl ?_
  refine x_iload_n dX12_set_6 rfl 7 rfl ?_
  refine x_iload_n dX12_set_7 rfl 8 rfl ?_
  refine x_iload_n dX12_set_8 rfl 9 rfl ?_
  refine kX12_canSet dX12_set_9 12 rfl hk_l0 kw6_118 (Nat.le_of_ble_eq_true rfl) (Nat.le_of_ble_eq_true rfl) h (fun r7 h => ?_)
  refine x_if_ne_b dX12_set_12 17 15 rfl rfl (fun hc => ?_) (fun hc => ?_)
  · have h := h.1 hc
    refine x_iload_n dX12_set_17 rfl 18 rfl ?_
    refine x_if_ne dX12_set_18 31 21 rfl rfl (fun hc => ?_) (fun hc => ?_)
    · have h := h.1 hc
      exact nX12_set_31 hk_l0 h
    · have h := h.2 hc
      refine x_aload_n dX12_set_21 rfl 22 rfl ?_
      refine gf12_1 dX12_set_22 25 rfl hk_l0 kw5_160 ?_
      refine x_bipush dX12_set_25 kb_7 27 rfl ?_
      refine x_iload_n dX12_set_27 rfl 28 rfl ?_
      refine x_iadd dX12_set_28 29 rfl ?_
      refine x_iload_n dX12_set_29 rfl 30 rfl ?_
      obtain ⟨hin, h⟩ := h
      refine x_iastore dX12_set_30 (ly12_1 hk_l0) hin 31 rfl (x_mem (fun M8 hM8 => ?_))
      have h := h M8 hM8
      exact nX12_set_31 hk_l0 h
  · have h := h.2 hc
    refine x_iconst dX12_set_15 kc_0 16 rfl ?_
    exact x_zret (z := false) dX12_set_16 h
theorem cX12_set_ {Q : Bool → Mem → Prop} {l0 : Nat} {l1 : Int32} {l2 : Int32} {l3 : Int32} {M : Mem} (hk_l0 : SHk l0 = 12) (h : FX12_set Q l0 l1 l2 l3 M) : xM yX12_set cX12_set 4 (some .boolean) 3 [.ref l0, .int l1, .int l2, .int l3] M (xQb Q) := xM_of (by decide +kernel) (Nat.le_of_ble_eq_true rfl) (eX12_set hk_l0 h)
theorem kX12_set {own : String} {cc : ByteArray} {nL : Nat} {rt : Option FieldType} {d pc ix : Nat} {L : List (Nat × Value)} {st : List Value} {M : Mem} {Rt : xGt → Array Value → State → Outcome → State → Prop} {Q : Bool → Mem → Prop} {l0 : Nat} {l1 : Int32} {l2 : Int32} {l3 : Int32} (hd : decode cc pc = .ok (.invokevirtual ix, 3)) (q : Nat) (hq : pc + 3 = q) (hk_l0 : SHk l0 = 12) (w1 : Cond.methodLink own ix yX12_set ∈ xTs) (hr : 3 < d) (hst : (st.map fun v => v.category).sum ≤ 8) (h : FX12_set Q l0 l1 l2 l3 M) (k : ∀ (r : Bool) (N : Mem), Q r N → xX own cc nL rt d q L (.int (bI r) :: st) N Rt) : xX own cc nL rt d pc L (.int l3 :: .int l2 :: .int l1 :: .ref l0 :: st) M Rt :=
  x_callV_b (n := 3) (As := [.int l1, .int l2, .int l3]) hd q hq hk_l0 (by decide) rfl rfl w1 kw6_115 kw6_116 kw1_14 kw6_117 (by decide +kernel) rfl hr (by decide) hst _ rfl (cX12_set_ hk_l0 h) k
def lbX12_types_3 (Q : Mem → Prop) (l0 : Nat) (l1 : Int32) (B3 : Int32 → Mem → Prop) (l2 : Int32) (M : Mem) : Prop :=
  ((l2 < 0 → Q M) ∧ (¬ l2 < 0 → vp_in (M l0 11) 400 ∧ ∀ M1 : Mem, M1 = xu M (l0 + 6) (ix (M l0 11)) ((l1 >>> (l2 &&& 31)) &&& 255) → ∀ M2 : Mem, M2 = xu M1 l0 11 ((M1 l0 11) + 1) → B3 (l2 + (-8)) M2))
def NX12_types_3 (Q : Mem → Prop) (l0 : Nat) (l1 : Int32) (l2 : Int32) (M : Mem) : Prop := xlp (fun (B : Int32 × Mem → Prop) a => lbX12_types_3 Q l0 l1 (fun l2 M => B (l2, M)) a.1 a.2) (l2, M)
theorem nX12_types_3 {Q : Mem → Prop} {l0 : Nat} {l1 : Int32} {l2 : Int32} {M : Mem} (hk_l0 : SHk l0 = 12) (h : NX12_types_3 Q l0 l1 l2 M) : xX RX12 cX12_types 3 none 1 3 [(0, .ref l0), (1, .int l1), (2, .int l2)] [] M (xQv Q) := by
  obtain ⟨n, h⟩ := h
  have hB3 : ∀ (n : Nat) (l2 : Int32) (M : Mem), xlpn (fun (B : Int32 × Mem → Prop) a => lbX12_types_3 Q l0 l1 (fun l2 M => B (l2, M)) a.1 a.2) n (l2, M) → xX RX12 cX12_types 3 none 1 3 [(0, .ref l0), (1, .int l1), (2, .int l2)] [] M (xQv Q) := by
    intro n
    induction n with
    | zero => intro l2 M h; exact False.elim h
    | succ n ih =>
      intro l2 M h
      have hB3 := ih
      have h : lbX12_types_3 Q l0 l1 (fun l2 M => xlpn (fun (B : Int32 × Mem → Prop) a => lbX12_types_3 Q l0 l1 (fun l2 M => B (l2, M)) a.1 a.2) n (l2, M)) l2 M := h
      unfold lbX12_types_3 at h
      refine x_iload_n dX12_types_3 rfl 4 rfl ?_
      refine x_if_lt dX12_types_4 39 7 rfl rfl (fun hc => ?_) (fun hc => ?_)
      · have h := h.1 hc
        exact x_vret dX12_types_39 h
      · have h := h.2 hc
        refine x_aload_n dX12_types_7 rfl 8 rfl ?_
        refine gf12_10 dX12_types_8 11 rfl hk_l0 kw5_169 ?_
        refine x_aload_n dX12_types_11 rfl 12 rfl ?_
        refine gf12_11 dX12_types_12 15 rfl hk_l0 kw5_170 ?_
        refine x_iload_n dX12_types_15 rfl 16 rfl ?_
        refine x_iload_n dX12_types_16 rfl 17 rfl ?_
        refine x_ishr dX12_types_17 18 rfl ?_
        refine x_sipush dX12_types_18 kh_255 21 rfl ?_
        refine x_iand dX12_types_21 22 rfl ?_
        obtain ⟨hin, h⟩ := h
        refine x_iastore dX12_types_22 (ly12_10 hk_l0) hin 23 rfl (x_mem (fun M1 hM1 => ?_))
        have h := h M1 hM1
        refine x_aload_n dX12_types_23 rfl 24 rfl ?_
        refine x_aload_n dX12_types_24 rfl 25 rfl ?_
        refine gf12_11 dX12_types_25 28 rfl hk_l0 kw5_170 ?_
        refine x_iconst dX12_types_28 kc_1 29 rfl ?_
        refine x_iadd dX12_types_29 30 rfl ?_
        refine pf12_11 dX12_types_30 33 rfl hk_l0 kw5_170 (x_mem (fun M2 hM2 => ?_))
        have h := h M2 hM2
        refine x_iinc dX12_types_33 rfl (congrArg (l2 + ·) kc_m8) (Nat.le_of_ble_eq_true rfl) [(0, .ref l0), (1, .int l1), (2, .int (l2 + (-8)))] rfl 36 rfl ?_
        refine x_goto dX12_types_36 3 rfl ?_
        exact hB3 _ _ h
  exact hB3 n l2 M h
def FX12_types (Q : Mem → Prop) (l0 : Nat) (l1 : Int32) (M : Mem) : Prop :=
  NX12_types_3 Q l0 l1 24 M
theorem eX12_types {Q : Mem → Prop} {l0 : Nat} {l1 : Int32} {M : Mem} (hk_l0 : SHk l0 = 12) (h : FX12_types Q l0 l1 M) : xX RX12 cX12_types 3 none 1 0 [(0, .ref l0), (1, .int l1)] [] M (xQv Q) := by
  unfold FX12_types at h
  refine x_bipush dX12_types_0 kb_24 2 rfl ?_
  refine x_istore_n dX12_types_2 (Nat.le_of_ble_eq_true rfl) [(0, .ref l0), (1, .int l1), (2, .int 24)] rfl 3 rfl ?_
  exact nX12_types_3 hk_l0 h
theorem cX12_types_ {Q : Mem → Prop} {l0 : Nat} {l1 : Int32} {M : Mem} (hk_l0 : SHk l0 = 12) (h : FX12_types Q l0 l1 M) : xM yX12_types cX12_types 3 none 1 [.ref l0, .int l1] M (xQv Q) := xM_of (by decide +kernel) (Nat.le_of_ble_eq_true rfl) (eX12_types hk_l0 h)
theorem kX12_types {own : String} {cc : ByteArray} {nL : Nat} {rt : Option FieldType} {d pc ix : Nat} {L : List (Nat × Value)} {st : List Value} {M : Mem} {Rt : xGt → Array Value → State → Outcome → State → Prop} {Q : Mem → Prop} {l0 : Nat} {l1 : Int32} (hd : decode cc pc = .ok (.invokevirtual ix, 3)) (q : Nat) (hq : pc + 3 = q) (hk_l0 : SHk l0 = 12) (w1 : Cond.methodLink own ix yX12_types ∈ xTs) (hr : 1 < d) (hst : (st.map fun v => v.category).sum ≤ 8) (h : FX12_types Q l0 l1 M) (k : ∀ (N : Mem), Q N → xX own cc nL rt d q L st N Rt) : xX own cc nL rt d pc L (.int l1 :: .ref l0 :: st) M Rt :=
  x_callV_v (n := 1) (As := [.int l1]) hd q hq hk_l0 (by decide) rfl rfl w1 kw6_132 ks3_10 kw1_14 kw6_133 (by decide +kernel) rfl hr (by decide) hst _ rfl (cX12_types_ hk_l0 h) k
def FX12_feed (Q : Int32 → Mem → Prop) (l0 : Nat) (l1 : Int32) (l2 : Int32) (l3 : Int32) (l4 : Int32) (l5 : Int32) (M : Mem) : Prop :=
  ∀ M1 : Mem, M1 = xu M l0 0 0 → (((M1 l0 11) ≤ 380 → FX12_types (fun (M2 : Mem) => FX12_types (fun (M3 : Mem) => FX12_types (fun (M4 : Mem) => FX12_types (fun (M5 : Mem) => FX12_types (fun (M6 : Mem) => Q (M6 l0 11) M6) l0 l5 M5) l0 l4 M4) l0 l3 M3) l0 l2 M2) l0 l1 M1) ∧ (¬ (M1 l0 11) ≤ 380 → Q (-1) M1))
theorem eX12_feed {Q : Int32 → Mem → Prop} {l0 : Nat} {l1 : Int32} {l2 : Int32} {l3 : Int32} {l4 : Int32} {l5 : Int32} {M : Mem} (hk_l0 : SHk l0 = 12) (h : FX12_feed Q l0 l1 l2 l3 l4 l5 M) : xX RX12 cX12_feed 6 (some .int) 2 0 [(0, .ref l0), (1, .int l1), (2, .int l2), (3, .int l3), (4, .int l4), (5, .int l5)] [] M (xQi Q) := by
  unfold FX12_feed at h
  refine x_aload_n dX12_feed_0 rfl 1 rfl ?_
  refine x_iconst dX12_feed_1 kc_0 2 rfl ?_
  refine pf12_0 dX12_feed_2 5 rfl hk_l0 kw5_159 (x_mem (fun M1 hM1 => ?_))
  have h := h M1 hM1
  refine x_aload_n dX12_feed_5 rfl 6 rfl ?_
  refine gf12_11 dX12_feed_6 9 rfl hk_l0 kw5_170 ?_
  refine x_sipush dX12_feed_9 kh_380 12 rfl ?_
  refine x_icmp_le dX12_feed_12 17 15 rfl rfl (fun hc => ?_) (fun hc => ?_)
  · have h := h.1 hc
    refine x_aload_n dX12_feed_17 rfl 18 rfl ?_
    refine x_iload_n dX12_feed_18 rfl 19 rfl ?_
    refine kX12_types dX12_feed_19 22 rfl hk_l0 kw6_130 (Nat.le_of_ble_eq_true rfl) (Nat.le_of_ble_eq_true rfl) h (fun M2 h => ?_)
    refine x_aload_n dX12_feed_22 rfl 23 rfl ?_
    refine x_iload_n dX12_feed_23 rfl 24 rfl ?_
    refine kX12_types dX12_feed_24 27 rfl hk_l0 kw6_130 (Nat.le_of_ble_eq_true rfl) (Nat.le_of_ble_eq_true rfl) h (fun M3 h => ?_)
    refine x_aload_n dX12_feed_27 rfl 28 rfl ?_
    refine x_iload_n dX12_feed_28 rfl 29 rfl ?_
    refine kX12_types dX12_feed_29 32 rfl hk_l0 kw6_130 (Nat.le_of_ble_eq_true rfl) (Nat.le_of_ble_eq_true rfl) h (fun M4 h => ?_)
    refine x_aload_n dX12_feed_32 rfl 33 rfl ?_
    refine x_iload dX12_feed_33 rfl 35 rfl ?_
    refine kX12_types dX12_feed_35 38 rfl hk_l0 kw6_130 (Nat.le_of_ble_eq_true rfl) (Nat.le_of_ble_eq_true rfl) h (fun M5 h => ?_)
    refine x_aload_n dX12_feed_38 rfl 39 rfl ?_
    refine x_iload dX12_feed_39 rfl 41 rfl ?_
    refine kX12_types dX12_feed_41 44 rfl hk_l0 kw6_130 (Nat.le_of_ble_eq_true rfl) (Nat.le_of_ble_eq_true rfl) h (fun M6 h => ?_)
    refine x_aload_n dX12_feed_44 rfl 45 rfl ?_
    refine gf12_11 dX12_feed_45 48 rfl hk_l0 kw5_170 ?_
    exact x_iret dX12_feed_48 h
  · have h := h.2 hc
    refine x_iconst dX12_feed_15 kc_m1 16 rfl ?_
    exact x_iret dX12_feed_16 h
theorem cX12_feed_ {Q : Int32 → Mem → Prop} {l0 : Nat} {l1 : Int32} {l2 : Int32} {l3 : Int32} {l4 : Int32} {l5 : Int32} {M : Mem} (hk_l0 : SHk l0 = 12) (h : FX12_feed Q l0 l1 l2 l3 l4 l5 M) : xM yX12_feed cX12_feed 6 (some .int) 2 [.ref l0, .int l1, .int l2, .int l3, .int l4, .int l5] M (xQi Q) := xM_of (by decide +kernel) (Nat.le_of_ble_eq_true rfl) (eX12_feed hk_l0 h)
theorem kX12_feed {own : String} {cc : ByteArray} {nL : Nat} {rt : Option FieldType} {d pc ix : Nat} {L : List (Nat × Value)} {st : List Value} {M : Mem} {Rt : xGt → Array Value → State → Outcome → State → Prop} {Q : Int32 → Mem → Prop} {l0 : Nat} {l1 : Int32} {l2 : Int32} {l3 : Int32} {l4 : Int32} {l5 : Int32} (hd : decode cc pc = .ok (.invokevirtual ix, 3)) (q : Nat) (hq : pc + 3 = q) (hk_l0 : SHk l0 = 12) (w1 : Cond.methodLink own ix yX12_feed ∈ xTs) (hr : 2 < d) (hst : (st.map fun v => v.category).sum ≤ 8) (h : FX12_feed Q l0 l1 l2 l3 l4 l5 M) (k : ∀ (r : Int32) (N : Mem), Q r N → xX own cc nL rt d q L (.int r :: st) N Rt) : xX own cc nL rt d pc L (.int l5 :: .int l4 :: .int l3 :: .int l2 :: .int l1 :: .ref l0 :: st) M Rt :=
  x_callV_i (n := 5) (As := [.int l1, .int l2, .int l3, .int l4, .int l5]) hd q hq hk_l0 (by decide) rfl rfl w1 kw6_127 kw6_128 kw1_14 kw6_129 (by decide +kernel) rfl hr (by decide) hst _ rfl (cX12_feed_ hk_l0 h) k
def FX12_end (Q : Bool → Mem → Prop) (l0 : Nat) (l1 : Int32) (M : Mem) : Prop :=
  ∀ M1 : Mem, M1 = xu M l0 0 0 → FX12_isIn (fun (r2 : Bool) => ((r2 = true → ∀ M3 : Mem, M3 = xu M1 l0 11 l1 → Q true M3) ∧ (r2 = false → Q false M1))) l0 l1 0 (M1 l0 11) M1
theorem eX12_end {Q : Bool → Mem → Prop} {l0 : Nat} {l1 : Int32} {M : Mem} (hk_l0 : SHk l0 = 12) (h : FX12_end Q l0 l1 M) : xX RX12 cX12_end 2 (some .boolean) 2 0 [(0, .ref l0), (1, .int l1)] [] M (xQb Q) := by
  unfold FX12_end at h
  refine x_aload_n dX12_end_0 rfl 1 rfl ?_
  refine x_iconst dX12_end_1 kc_0 2 rfl ?_
  refine pf12_0 dX12_end_2 5 rfl hk_l0 kw5_159 (x_mem (fun M1 hM1 => ?_))
  have h := h M1 hM1
  refine x_aload_n dX12_end_5 rfl 6 rfl ?_
  refine x_iload_n dX12_end_6 rfl 7 rfl ?_
  refine x_iconst dX12_end_7 kc_0 8 rfl ?_
  refine x_aload_n dX12_end_8 rfl 9 rfl ?_
  refine gf12_11 dX12_end_9 12 rfl hk_l0 kw5_170 ?_
  refine kX12_isIn dX12_end_12 15 rfl hk_l0 kw6_82 (Nat.le_of_ble_eq_true rfl) (Nat.le_of_ble_eq_true rfl) h (fun r2 h => ?_)
  refine x_if_ne_b dX12_end_15 20 18 rfl rfl (fun hc => ?_) (fun hc => ?_)
  · have h := h.1 hc
    refine x_aload_n dX12_end_20 rfl 21 rfl ?_
    refine x_iload_n dX12_end_21 rfl 22 rfl ?_
    refine pf12_11 dX12_end_22 25 rfl hk_l0 kw5_170 (x_mem (fun M3 hM3 => ?_))
    have h := h M3 hM3
    refine x_iconst dX12_end_25 kc_1 26 rfl ?_
    exact x_zret (z := true) dX12_end_26 h
  · have h := h.2 hc
    refine x_iconst dX12_end_18 kc_0 19 rfl ?_
    exact x_zret (z := false) dX12_end_19 h
theorem cX12_end_ {Q : Bool → Mem → Prop} {l0 : Nat} {l1 : Int32} {M : Mem} (hk_l0 : SHk l0 = 12) (h : FX12_end Q l0 l1 M) : xM yX12_end cX12_end 2 (some .boolean) 2 [.ref l0, .int l1] M (xQb Q) := xM_of (by decide +kernel) (Nat.le_of_ble_eq_true rfl) (eX12_end hk_l0 h)
theorem kX12_end {own : String} {cc : ByteArray} {nL : Nat} {rt : Option FieldType} {d pc ix : Nat} {L : List (Nat × Value)} {st : List Value} {M : Mem} {Rt : xGt → Array Value → State → Outcome → State → Prop} {Q : Bool → Mem → Prop} {l0 : Nat} {l1 : Int32} (hd : decode cc pc = .ok (.invokevirtual ix, 3)) (q : Nat) (hq : pc + 3 = q) (hk_l0 : SHk l0 = 12) (w1 : Cond.methodLink own ix yX12_end ∈ xTs) (hr : 2 < d) (hst : (st.map fun v => v.category).sum ≤ 8) (h : FX12_end Q l0 l1 M) (k : ∀ (r : Bool) (N : Mem), Q r N → xX own cc nL rt d q L (.int (bI r) :: st) N Rt) : xX own cc nL rt d pc L (.int l1 :: .ref l0 :: st) M Rt :=
  x_callV_b (n := 1) (As := [.int l1]) hd q hq hk_l0 (by decide) rfl rfl w1 kw6_135 kw6_136 kw1_14 kw6_137 (by decide +kernel) rfl hr (by decide) hst _ rfl (cX12_end_ hk_l0 h) k
def FX12_raw (Q : Int32 → Prop) (l0 : Nat) (l1 : Int32) (M : Mem) : Prop :=
  (((M l0 11) ≤ l1 → Q (-1)) ∧ (¬ (M l0 11) ≤ l1 → vp_in l1 400 ∧ Q (M (l0 + 6) (ix l1))))
theorem eX12_raw {Q : Int32 → Prop} {l0 : Nat} {l1 : Int32} {M : Mem} (hk_l0 : SHk l0 = 12) (h : FX12_raw Q l0 l1 M) : xX RX12 cX12_raw 2 (some .int) 1 0 [(0, .ref l0), (1, .int l1)] [] M (xQi (xP M Q)) := by
  unfold FX12_raw at h
  refine x_iload_n dX12_raw_0 rfl 1 rfl ?_
  refine x_aload_n dX12_raw_1 rfl 2 rfl ?_
  refine gf12_11 dX12_raw_2 5 rfl hk_l0 kw5_170 ?_
  refine x_icmp_ge dX12_raw_5 17 8 rfl rfl (fun hc => ?_) (fun hc => ?_)
  · have h := h.1 hc
    refine x_iconst dX12_raw_17 kc_m1 18 rfl ?_
    exact x_iret dX12_raw_18 ⟨rfl, h⟩
  · have h := h.2 hc
    refine x_aload_n dX12_raw_8 rfl 9 rfl ?_
    refine gf12_10 dX12_raw_9 12 rfl hk_l0 kw5_169 ?_
    refine x_iload_n dX12_raw_12 rfl 13 rfl ?_
    obtain ⟨hin, h⟩ := h
    refine x_iaload dX12_raw_13 (ly12_10 hk_l0) hin 14 rfl ?_
    refine x_goto dX12_raw_14 18 rfl ?_
    exact x_iret dX12_raw_18 ⟨rfl, h⟩
theorem cX12_raw_ {Q : Int32 → Prop} {l0 : Nat} {l1 : Int32} {M : Mem} (hk_l0 : SHk l0 = 12) (h : FX12_raw Q l0 l1 M) : xM yX12_raw cX12_raw 2 (some .int) 1 [.ref l0, .int l1] M (xQi (xP M Q)) := xM_of (by decide +kernel) (Nat.le_of_ble_eq_true rfl) (eX12_raw hk_l0 h)
theorem kX12_raw {own : String} {cc : ByteArray} {nL : Nat} {rt : Option FieldType} {d pc ix : Nat} {L : List (Nat × Value)} {st : List Value} {M : Mem} {Rt : xGt → Array Value → State → Outcome → State → Prop} {Q : Int32 → Prop} {l0 : Nat} {l1 : Int32} (hd : decode cc pc = .ok (.invokevirtual ix, 3)) (q : Nat) (hq : pc + 3 = q) (hk_l0 : SHk l0 = 12) (w1 : Cond.methodLink own ix yX12_raw ∈ xTs) (hr : 1 < d) (hst : (st.map fun v => v.category).sum ≤ 8) (h : FX12_raw Q l0 l1 M) (k : ∀ (r : Int32), Q r → xX own cc nL rt d q L (.int r :: st) M Rt) : xX own cc nL rt d pc L (.int l1 :: .ref l0 :: st) M Rt :=
  x_callV_i (n := 1) (As := [.int l1]) hd q hq hk_l0 (by decide) rfl rfl w1 kw6_152 ks3_13 kw1_14 kw6_153 (by decide +kernel) rfl hr (by decide) hst _ rfl (cX12_raw_ hk_l0 h) (fun r N hN => by obtain ⟨rfl, hN⟩ := hN; exact k r hN)
def FX12_isLetter (Q : Bool → Prop) (l0 : Nat) (l1 : Int32) (M : Mem) : Prop :=
  FX12_isIn (fun (r1 : Bool) => ((r1 = true → Q true) ∧ (r1 = false → FX12_isIn (fun (r2 : Bool) => ((r2 = false → Q false) ∧ (r2 = true → Q true))) l0 l1 65 90 M))) l0 l1 97 122 M
theorem eX12_isLetter {Q : Bool → Prop} {l0 : Nat} {l1 : Int32} {M : Mem} (hk_l0 : SHk l0 = 12) (h : FX12_isLetter Q l0 l1 M) : xX RX12 cX12_isLetter 2 (some .boolean) 2 0 [(0, .ref l0), (1, .int l1)] [] M (xQb (xP M Q)) := by
  unfold FX12_isLetter at h
  refine x_aload_n dX12_isLetter_0 rfl 1 rfl ?_
  refine x_iload_n dX12_isLetter_1 rfl 2 rfl ?_
  refine x_bipush dX12_isLetter_2 kb_97 4 rfl ?_
  refine x_bipush dX12_isLetter_4 kb_122 6 rfl ?_
  refine kX12_isIn dX12_isLetter_6 9 rfl hk_l0 kw6_82 (Nat.le_of_ble_eq_true rfl) (Nat.le_of_ble_eq_true rfl) h (fun r1 h => ?_)
  refine x_if_ne_b dX12_isLetter_9 24 12 rfl rfl (fun hc => ?_) (fun hc => ?_)
  · have h := h.1 hc
    refine x_iconst dX12_isLetter_24 kc_1 25 rfl ?_
    refine x_goto dX12_isLetter_25 29 rfl ?_
    exact x_zret (z := true) dX12_isLetter_29 ⟨rfl, h⟩
  · have h := h.2 hc
    refine x_aload_n dX12_isLetter_12 rfl 13 rfl ?_
    refine x_iload_n dX12_isLetter_13 rfl 14 rfl ?_
    refine x_bipush dX12_isLetter_14 kb_65 16 rfl ?_
    refine x_bipush dX12_isLetter_16 kb_90 18 rfl ?_
    refine kX12_isIn dX12_isLetter_18 21 rfl hk_l0 kw6_82 (Nat.le_of_ble_eq_true rfl) (Nat.le_of_ble_eq_true rfl) h (fun r2 h => ?_)
    refine x_if_eq_b dX12_isLetter_21 28 24 rfl rfl (fun hc => ?_) (fun hc => ?_)
    · have h := h.1 hc
      refine x_iconst dX12_isLetter_28 kc_0 29 rfl ?_
      exact x_zret (z := false) dX12_isLetter_29 ⟨rfl, h⟩
    · have h := h.2 hc
      refine x_iconst dX12_isLetter_24 kc_1 25 rfl ?_
      refine x_goto dX12_isLetter_25 29 rfl ?_
      exact x_zret (z := true) dX12_isLetter_29 ⟨rfl, h⟩
theorem cX12_isLetter_ {Q : Bool → Prop} {l0 : Nat} {l1 : Int32} {M : Mem} (hk_l0 : SHk l0 = 12) (h : FX12_isLetter Q l0 l1 M) : xM yX12_isLetter cX12_isLetter 2 (some .boolean) 2 [.ref l0, .int l1] M (xQb (xP M Q)) := xM_of (by decide +kernel) (Nat.le_of_ble_eq_true rfl) (eX12_isLetter hk_l0 h)
theorem kX12_isLetter {own : String} {cc : ByteArray} {nL : Nat} {rt : Option FieldType} {d pc ix : Nat} {L : List (Nat × Value)} {st : List Value} {M : Mem} {Rt : xGt → Array Value → State → Outcome → State → Prop} {Q : Bool → Prop} {l0 : Nat} {l1 : Int32} (hd : decode cc pc = .ok (.invokevirtual ix, 3)) (q : Nat) (hq : pc + 3 = q) (hk_l0 : SHk l0 = 12) (w1 : Cond.methodLink own ix yX12_isLetter ∈ xTs) (hr : 2 < d) (hst : (st.map fun v => v.category).sum ≤ 8) (h : FX12_isLetter Q l0 l1 M) (k : ∀ (r : Bool), Q r → xX own cc nL rt d q L (.int (bI r) :: st) M Rt) : xX own cc nL rt d pc L (.int l1 :: .ref l0 :: st) M Rt :=
  x_callV_b (n := 1) (As := [.int l1]) hd q hq hk_l0 (by decide) rfl rfl w1 kw6_156 ks3_14 kw1_14 kw6_157 (by decide +kernel) rfl hr (by decide) hst _ rfl (cX12_isLetter_ hk_l0 h) (fun r N hN => by obtain ⟨rfl, hN⟩ := hN; exact k r hN)
def FX12_isDigit (Q : Bool → Prop) (l0 : Nat) (l1 : Int32) (M : Mem) : Prop :=
  FX12_isIn (fun (r1 : Bool) => Q r1) l0 l1 48 57 M
theorem eX12_isDigit {Q : Bool → Prop} {l0 : Nat} {l1 : Int32} {M : Mem} (hk_l0 : SHk l0 = 12) (h : FX12_isDigit Q l0 l1 M) : xX RX12 cX12_isDigit 2 (some .boolean) 2 0 [(0, .ref l0), (1, .int l1)] [] M (xQb (xP M Q)) := by
  unfold FX12_isDigit at h
  refine x_aload_n dX12_isDigit_0 rfl 1 rfl ?_
  refine x_iload_n dX12_isDigit_1 rfl 2 rfl ?_
  refine x_bipush dX12_isDigit_2 kb_48 4 rfl ?_
  refine x_bipush dX12_isDigit_4 kb_57 6 rfl ?_
  refine kX12_isIn dX12_isDigit_6 9 rfl hk_l0 kw6_82 (Nat.le_of_ble_eq_true rfl) (Nat.le_of_ble_eq_true rfl) h (fun r1 h => ?_)
  exact x_zret dX12_isDigit_9 ⟨rfl, h⟩
theorem cX12_isDigit_ {Q : Bool → Prop} {l0 : Nat} {l1 : Int32} {M : Mem} (hk_l0 : SHk l0 = 12) (h : FX12_isDigit Q l0 l1 M) : xM yX12_isDigit cX12_isDigit 2 (some .boolean) 2 [.ref l0, .int l1] M (xQb (xP M Q)) := xM_of (by decide +kernel) (Nat.le_of_ble_eq_true rfl) (eX12_isDigit hk_l0 h)
theorem kX12_isDigit {own : String} {cc : ByteArray} {nL : Nat} {rt : Option FieldType} {d pc ix : Nat} {L : List (Nat × Value)} {st : List Value} {M : Mem} {Rt : xGt → Array Value → State → Outcome → State → Prop} {Q : Bool → Prop} {l0 : Nat} {l1 : Int32} (hd : decode cc pc = .ok (.invokevirtual ix, 3)) (q : Nat) (hq : pc + 3 = q) (hk_l0 : SHk l0 = 12) (w1 : Cond.methodLink own ix yX12_isDigit ∈ xTs) (hr : 2 < d) (hst : (st.map fun v => v.category).sum ≤ 8) (h : FX12_isDigit Q l0 l1 M) (k : ∀ (r : Bool), Q r → xX own cc nL rt d q L (.int (bI r) :: st) M Rt) : xX own cc nL rt d pc L (.int l1 :: .ref l0 :: st) M Rt :=
  x_callV_b (n := 1) (As := [.int l1]) hd q hq hk_l0 (by decide) rfl rfl w1 kw6_164 ks4_0 kw1_14 kw6_165 (by decide +kernel) rfl hr (by decide) hst _ rfl (cX12_isDigit_ hk_l0 h) (fun r N hN => by obtain ⟨rfl, hN⟩ := hN; exact k r hN)
def FX12_isMarkSign (Q : Bool → Prop) (l0 : Nat) (l1 : Int32) (M : Mem) : Prop :=
  ((l1 = 59 → Q true) ∧ (¬ l1 = 59 → ((l1 = 43 → Q true) ∧ (¬ l1 = 43 → ((l1 = 45 → Q true) ∧ (¬ l1 = 45 → ((l1 = 42 → Q true) ∧ (¬ l1 = 42 → ((l1 = 47 → Q true) ∧ (¬ l1 = 47 → ((l1 = 40 → Q true) ∧ (¬ l1 = 40 → ((l1 = 41 → Q true) ∧ (¬ l1 = 41 → ((l1 = 60 → Q true) ∧ (¬ l1 = 60 → ((l1 = 61 → Q true) ∧ (¬ l1 = 61 → ((¬ l1 = 62 → Q false) ∧ (l1 = 62 → Q true))))))))))))))))))))
theorem eX12_isMarkSign {Q : Bool → Prop} {l0 : Nat} {l1 : Int32} {M : Mem} (hk_l0 : SHk l0 = 12) (h : FX12_isMarkSign Q l0 l1 M) : xX RX12 cX12_isMarkSign 2 (some .boolean) 1 0 [(0, .ref l0), (1, .int l1)] [] M (xQb (xP M Q)) := by
  unfold FX12_isMarkSign at h
  refine x_iload_n dX12_isMarkSign_0 rfl 1 rfl ?_
  refine x_bipush dX12_isMarkSign_1 kb_59 3 rfl ?_
  refine x_icmp_eq dX12_isMarkSign_3 60 6 rfl rfl (fun hc => ?_) (fun hc => ?_)
  · have h := h.1 hc
    refine x_iconst dX12_isMarkSign_60 kc_1 61 rfl ?_
    refine x_goto dX12_isMarkSign_61 65 rfl ?_
    exact x_zret (z := true) dX12_isMarkSign_65 ⟨rfl, h⟩
  · have h := h.2 hc
    refine x_iload_n dX12_isMarkSign_6 rfl 7 rfl ?_
    refine x_bipush dX12_isMarkSign_7 kb_43 9 rfl ?_
    refine x_icmp_eq dX12_isMarkSign_9 60 12 rfl rfl (fun hc => ?_) (fun hc => ?_)
    · have h := h.1 hc
      refine x_iconst dX12_isMarkSign_60 kc_1 61 rfl ?_
      refine x_goto dX12_isMarkSign_61 65 rfl ?_
      exact x_zret (z := true) dX12_isMarkSign_65 ⟨rfl, h⟩
    · have h := h.2 hc
      refine x_iload_n dX12_isMarkSign_12 rfl 13 rfl ?_
      refine x_bipush dX12_isMarkSign_13 kb_45 15 rfl ?_
      refine x_icmp_eq dX12_isMarkSign_15 60 18 rfl rfl (fun hc => ?_) (fun hc => ?_)
      · have h := h.1 hc
        refine x_iconst dX12_isMarkSign_60 kc_1 61 rfl ?_
        refine x_goto dX12_isMarkSign_61 65 rfl ?_
        exact x_zret (z := true) dX12_isMarkSign_65 ⟨rfl, h⟩
      · have h := h.2 hc
        refine x_iload_n dX12_isMarkSign_18 rfl 19 rfl ?_
        refine x_bipush dX12_isMarkSign_19 kb_42 21 rfl ?_
        refine x_icmp_eq dX12_isMarkSign_21 60 24 rfl rfl (fun hc => ?_) (fun hc => ?_)
        · have h := h.1 hc
          refine x_iconst dX12_isMarkSign_60 kc_1 61 rfl ?_
          refine x_goto dX12_isMarkSign_61 65 rfl ?_
          exact x_zret (z := true) dX12_isMarkSign_65 ⟨rfl, h⟩
        · have h := h.2 hc
          refine x_iload_n dX12_isMarkSign_24 rfl 25 rfl ?_
          refine x_bipush dX12_isMarkSign_25 kb_47 27 rfl ?_
          refine x_icmp_eq dX12_isMarkSign_27 60 30 rfl rfl (fun hc => ?_) (fun hc => ?_)
          · have h := h.1 hc
            refine x_iconst dX12_isMarkSign_60 kc_1 61 rfl ?_
            refine x_goto dX12_isMarkSign_61 65 rfl ?_
            exact x_zret (z := true) dX12_isMarkSign_65 ⟨rfl, h⟩
          · have h := h.2 hc
            refine x_iload_n dX12_isMarkSign_30 rfl 31 rfl ?_
            refine x_bipush dX12_isMarkSign_31 kb_40 33 rfl ?_
            refine x_icmp_eq dX12_isMarkSign_33 60 36 rfl rfl (fun hc => ?_) (fun hc => ?_)
            · have h := h.1 hc
              refine x_iconst dX12_isMarkSign_60 kc_1 61 rfl ?_
              refine x_goto dX12_isMarkSign_61 65 rfl ?_
              exact x_zret (z := true) dX12_isMarkSign_65 ⟨rfl, h⟩
            · have h := h.2 hc
              refine x_iload_n dX12_isMarkSign_36 rfl 37 rfl ?_
              refine x_bipush dX12_isMarkSign_37 kb_41 39 rfl ?_
              refine x_icmp_eq dX12_isMarkSign_39 60 42 rfl rfl (fun hc => ?_) (fun hc => ?_)
              · have h := h.1 hc
                refine x_iconst dX12_isMarkSign_60 kc_1 61 rfl ?_
                refine x_goto dX12_isMarkSign_61 65 rfl ?_
                exact x_zret (z := true) dX12_isMarkSign_65 ⟨rfl, h⟩
              · have h := h.2 hc
                refine x_iload_n dX12_isMarkSign_42 rfl 43 rfl ?_
                refine x_bipush dX12_isMarkSign_43 kb_60 45 rfl ?_
                refine x_icmp_eq dX12_isMarkSign_45 60 48 rfl rfl (fun hc => ?_) (fun hc => ?_)
                · have h := h.1 hc
                  refine x_iconst dX12_isMarkSign_60 kc_1 61 rfl ?_
                  refine x_goto dX12_isMarkSign_61 65 rfl ?_
                  exact x_zret (z := true) dX12_isMarkSign_65 ⟨rfl, h⟩
                · have h := h.2 hc
                  refine x_iload_n dX12_isMarkSign_48 rfl 49 rfl ?_
                  refine x_bipush dX12_isMarkSign_49 kb_61 51 rfl ?_
                  refine x_icmp_eq dX12_isMarkSign_51 60 54 rfl rfl (fun hc => ?_) (fun hc => ?_)
                  · have h := h.1 hc
                    refine x_iconst dX12_isMarkSign_60 kc_1 61 rfl ?_
                    refine x_goto dX12_isMarkSign_61 65 rfl ?_
                    exact x_zret (z := true) dX12_isMarkSign_65 ⟨rfl, h⟩
                  · have h := h.2 hc
                    refine x_iload_n dX12_isMarkSign_54 rfl 55 rfl ?_
                    refine x_bipush dX12_isMarkSign_55 kb_62 57 rfl ?_
                    refine x_icmp_ne dX12_isMarkSign_57 64 60 rfl rfl (fun hc => ?_) (fun hc => ?_)
                    · have h := h.1 hc
                      refine x_iconst dX12_isMarkSign_64 kc_0 65 rfl ?_
                      exact x_zret (z := false) dX12_isMarkSign_65 ⟨rfl, h⟩
                    · have h := h.2 hc
                      refine x_iconst dX12_isMarkSign_60 kc_1 61 rfl ?_
                      refine x_goto dX12_isMarkSign_61 65 rfl ?_
                      exact x_zret (z := true) dX12_isMarkSign_65 ⟨rfl, h⟩
theorem cX12_isMarkSign_ {Q : Bool → Prop} {l0 : Nat} {l1 : Int32} {M : Mem} (hk_l0 : SHk l0 = 12) (h : FX12_isMarkSign Q l0 l1 M) : xM yX12_isMarkSign cX12_isMarkSign 2 (some .boolean) 1 [.ref l0, .int l1] M (xQb (xP M Q)) := xM_of (by decide +kernel) (Nat.le_of_ble_eq_true rfl) (eX12_isMarkSign hk_l0 h)
theorem kX12_isMarkSign {own : String} {cc : ByteArray} {nL : Nat} {rt : Option FieldType} {d pc ix : Nat} {L : List (Nat × Value)} {st : List Value} {M : Mem} {Rt : xGt → Array Value → State → Outcome → State → Prop} {Q : Bool → Prop} {l0 : Nat} {l1 : Int32} (hd : decode cc pc = .ok (.invokevirtual ix, 3)) (q : Nat) (hq : pc + 3 = q) (hk_l0 : SHk l0 = 12) (w1 : Cond.methodLink own ix yX12_isMarkSign ∈ xTs) (hr : 1 < d) (hst : (st.map fun v => v.category).sum ≤ 8) (h : FX12_isMarkSign Q l0 l1 M) (k : ∀ (r : Bool), Q r → xX own cc nL rt d q L (.int (bI r) :: st) M Rt) : xX own cc nL rt d pc L (.int l1 :: .ref l0 :: st) M Rt :=
  x_callV_b (n := 1) (As := [.int l1]) hd q hq hk_l0 (by decide) rfl rfl w1 kw6_168 ks4_1 kw1_14 kw6_169 (by decide +kernel) rfl hr (by decide) hst _ rfl (cX12_isMarkSign_ hk_l0 h) (fun r N hN => by obtain ⟨rfl, hN⟩ := hN; exact k r hN)
def lbX12_wordAt_93 (Q : Int32 → Prop) (B5 : Int32 → Int32 → Prop) (l0 : Nat) (l1 : Int32) (l2 : Int32) (l3 : Int32) (M : Mem) (B93 : Int32 → Prop) (l4 : Int32) : Prop :=
  vp_in l4 125 ∧ (((M (l0 + 7) (ix l4)) = 32 → B5 l3 l4) ∧ (¬ (M (l0 + 7) (ix l4)) = 32 → B93 (l4 + 1)))
def NX12_wordAt_93 (Q : Int32 → Prop) (B5 : Int32 → Int32 → Prop) (l0 : Nat) (l1 : Int32) (l2 : Int32) (l3 : Int32) (l4 : Int32) (M : Mem) : Prop := xlp (fun (B : Int32 → Prop) a => lbX12_wordAt_93 Q B5 l0 l1 l2 l3 M (fun l4 => B (l4)) a) (l4)
theorem nX12_wordAt_93 {Q : Int32 → Prop} {B5 : Int32 → Int32 → Prop} {l0 : Nat} {l1 : Int32} {l2 : Int32} {l3 : Int32} {l4 : Int32} {M : Mem} (hB5 : ∀ (l3 : Int32) (l4 : Int32), B5 l3 l4 → xX RX12 cX12_wordAt 6 (some .int) 1 5 [(0, .ref l0), (1, .int l1), (2, .int l2), (3, .int l3), (4, .int l4)] [] M (xQi (xP M Q))) (hk_l0 : SHk l0 = 12) (h : NX12_wordAt_93 Q B5 l0 l1 l2 l3 l4 M) : xX RX12 cX12_wordAt 6 (some .int) 1 93 [(0, .ref l0), (1, .int l1), (2, .int l2), (3, .int l3), (4, .int l4)] [] M (xQi (xP M Q)) := by
  obtain ⟨n, h⟩ := h
  have hB93 : ∀ (n : Nat) (l4 : Int32), xlpn (fun (B : Int32 → Prop) a => lbX12_wordAt_93 Q B5 l0 l1 l2 l3 M (fun l4 => B (l4)) a) n (l4) → xX RX12 cX12_wordAt 6 (some .int) 1 93 [(0, .ref l0), (1, .int l1), (2, .int l2), (3, .int l3), (4, .int l4)] [] M (xQi (xP M Q)) := by
    intro n
    induction n with
    | zero => intro l4 h; exact False.elim h
    | succ n ih =>
      intro l4 h
      have hB93 := ih
      have h : lbX12_wordAt_93 Q B5 l0 l1 l2 l3 M (fun l4 => xlpn (fun (B : Int32 → Prop) a => lbX12_wordAt_93 Q B5 l0 l1 l2 l3 M (fun l4 => B (l4)) a) n (l4)) l4 := h
      unfold lbX12_wordAt_93 at h
      refine x_aload_n dX12_wordAt_93 rfl 94 rfl ?_
      refine gf12_16 dX12_wordAt_94 97 rfl hk_l0 kw5_175 ?_
      refine x_iload dX12_wordAt_97 rfl 99 rfl ?_
      obtain ⟨hin, h⟩ := h
      refine x_iaload dX12_wordAt_99 (ly12_16 hk_l0) hin 100 rfl ?_
      refine x_bipush dX12_wordAt_100 kb_32 102 rfl ?_
      refine x_icmp_eq dX12_wordAt_102 114 105 rfl rfl (fun hc => ?_) (fun hc => ?_)
      · have h := h.1 hc
        refine x_goto dX12_wordAt_114 5 rfl ?_
        exact hB5 _ _ h
      · have h := h.2 hc
        refine x_iload dX12_wordAt_105 rfl 107 rfl ?_
        refine x_iconst dX12_wordAt_107 kc_1 108 rfl ?_
        refine x_iadd dX12_wordAt_108 109 rfl ?_
        refine x_istore dX12_wordAt_109 (Nat.le_of_ble_eq_true rfl) [(0, .ref l0), (1, .int l1), (2, .int l2), (3, .int l3), (4, .int (l4 + 1))] rfl 111 rfl ?_
        refine x_goto dX12_wordAt_111 93 rfl ?_
        exact hB93 _ h
  exact hB93 n l4 h
def NX12_wordAt_60 (Q : Int32 → Prop) (B5 : Int32 → Int32 → Prop) (l0 : Nat) (l1 : Int32) (l2 : Int32) (l3 : Int32) (l4 : Int32) (l5 : Int32) (M : Mem) : Prop :=
  ((¬ (l1 + l5) = l2 → NX12_wordAt_93 Q B5 l0 l1 l2 l3 (l4 + 1) M) ∧ ((l1 + l5) = l2 → vp_in ((l4 + 1) + l5) 125 ∧ ((¬ (M (l0 + 7) (ix ((l4 + 1) + l5))) = 32 → NX12_wordAt_93 Q B5 l0 l1 l2 l3 (l4 + 1) M) ∧ ((M (l0 + 7) (ix ((l4 + 1) + l5))) = 32 → Q l3))))
theorem nX12_wordAt_60 {Q : Int32 → Prop} {B5 : Int32 → Int32 → Prop} {l0 : Nat} {l1 : Int32} {l2 : Int32} {l3 : Int32} {l4 : Int32} {l5 : Int32} {M : Mem} (hB5 : ∀ (l3 : Int32) (l4 : Int32), B5 l3 l4 → xX RX12 cX12_wordAt 6 (some .int) 1 5 [(0, .ref l0), (1, .int l1), (2, .int l2), (3, .int l3), (4, .int l4)] [] M (xQi (xP M Q))) (hk_l0 : SHk l0 = 12) (h : NX12_wordAt_60 Q B5 l0 l1 l2 l3 l4 l5 M) : xX RX12 cX12_wordAt 6 (some .int) 1 60 [(0, .ref l0), (1, .int l1), (2, .int l2), (3, .int l3), (4, .int l4), (5, .int l5)] [] M (xQi (xP M Q)) := by
  unfold NX12_wordAt_60 at h
  refine x_iload_n dX12_wordAt_60 rfl 61 rfl ?_
  refine x_iload dX12_wordAt_61 rfl 63 rfl ?_
  refine x_iadd dX12_wordAt_63 64 rfl ?_
  refine x_iload_n dX12_wordAt_64 rfl 65 rfl ?_
  refine x_icmp_ne dX12_wordAt_65 87 68 rfl rfl (fun hc => ?_) (fun hc => ?_)
  · have h := h.1 hc
    refine x_iload dX12_wordAt_87 rfl 89 rfl ?_
    refine x_iconst dX12_wordAt_89 kc_1 90 rfl ?_
    refine x_iadd dX12_wordAt_90 91 rfl ?_
    refine x_istore dX12_wordAt_91 (Nat.le_of_ble_eq_true rfl) [(0, .ref l0), (1, .int l1), (2, .int l2), (3, .int l3), (4, .int (l4 + 1)), (5, .int l5)] rfl 93 rfl ?_
    refine x_weak [(0, .ref l0), (1, .int l1), (2, .int l2), (3, .int l3), (4, .int (l4 + 1))] [0, 1, 2, 3, 4] rfl ?_
    exact nX12_wordAt_93 hB5 hk_l0 h
  · have h := h.2 hc
    refine x_aload_n dX12_wordAt_68 rfl 69 rfl ?_
    refine gf12_16 dX12_wordAt_69 72 rfl hk_l0 kw5_175 ?_
    refine x_iload dX12_wordAt_72 rfl 74 rfl ?_
    refine x_iconst dX12_wordAt_74 kc_1 75 rfl ?_
    refine x_iadd dX12_wordAt_75 76 rfl ?_
    refine x_iload dX12_wordAt_76 rfl 78 rfl ?_
    refine x_iadd dX12_wordAt_78 79 rfl ?_
    obtain ⟨hin, h⟩ := h
    refine x_iaload dX12_wordAt_79 (ly12_16 hk_l0) hin 80 rfl ?_
    refine x_bipush dX12_wordAt_80 kb_32 82 rfl ?_
    refine x_icmp_ne dX12_wordAt_82 87 85 rfl rfl (fun hc => ?_) (fun hc => ?_)
    · have h := h.1 hc
      refine x_iload dX12_wordAt_87 rfl 89 rfl ?_
      refine x_iconst dX12_wordAt_89 kc_1 90 rfl ?_
      refine x_iadd dX12_wordAt_90 91 rfl ?_
      refine x_istore dX12_wordAt_91 (Nat.le_of_ble_eq_true rfl) [(0, .ref l0), (1, .int l1), (2, .int l2), (3, .int l3), (4, .int (l4 + 1)), (5, .int l5)] rfl 93 rfl ?_
      refine x_weak [(0, .ref l0), (1, .int l1), (2, .int l2), (3, .int l3), (4, .int (l4 + 1))] [0, 1, 2, 3, 4] rfl ?_
      exact nX12_wordAt_93 hB5 hk_l0 h
    · have h := h.2 hc
      refine x_iload_n dX12_wordAt_85 rfl 86 rfl ?_
      exact x_iret dX12_wordAt_86 ⟨rfl, h⟩
def lbX12_wordAt_19 (Q : Int32 → Prop) (B5 : Int32 → Int32 → Prop) (l0 : Nat) (l1 : Int32) (l2 : Int32) (l3 : Int32) (l4 : Int32) (M : Mem) (B19 : Int32 → Prop) (l5 : Int32) : Prop :=
  ((l2 ≤ (l1 + l5) → NX12_wordAt_60 Q B5 l0 l1 l2 l3 l4 l5 M) ∧ (¬ l2 ≤ (l1 + l5) → vp_in ((l4 + 1) + l5) 125 ∧ vp_in (l1 + l5) 400 ∧ ((¬ (M (l0 + 7) (ix ((l4 + 1) + l5))) = (M (l0 + 6) (ix (l1 + l5))) → NX12_wordAt_60 Q B5 l0 l1 l2 l3 l4 l5 M) ∧ ((M (l0 + 7) (ix ((l4 + 1) + l5))) = (M (l0 + 6) (ix (l1 + l5))) → B19 (l5 + 1)))))
def NX12_wordAt_19 (Q : Int32 → Prop) (B5 : Int32 → Int32 → Prop) (l0 : Nat) (l1 : Int32) (l2 : Int32) (l3 : Int32) (l4 : Int32) (l5 : Int32) (M : Mem) : Prop := xlp (fun (B : Int32 → Prop) a => lbX12_wordAt_19 Q B5 l0 l1 l2 l3 l4 M (fun l5 => B (l5)) a) (l5)
theorem nX12_wordAt_19 {Q : Int32 → Prop} {B5 : Int32 → Int32 → Prop} {l0 : Nat} {l1 : Int32} {l2 : Int32} {l3 : Int32} {l4 : Int32} {l5 : Int32} {M : Mem} (hB5 : ∀ (l3 : Int32) (l4 : Int32), B5 l3 l4 → xX RX12 cX12_wordAt 6 (some .int) 1 5 [(0, .ref l0), (1, .int l1), (2, .int l2), (3, .int l3), (4, .int l4)] [] M (xQi (xP M Q))) (hk_l0 : SHk l0 = 12) (h : NX12_wordAt_19 Q B5 l0 l1 l2 l3 l4 l5 M) : xX RX12 cX12_wordAt 6 (some .int) 1 19 [(0, .ref l0), (1, .int l1), (2, .int l2), (3, .int l3), (4, .int l4), (5, .int l5)] [] M (xQi (xP M Q)) := by
  obtain ⟨n, h⟩ := h
  have hB19 : ∀ (n : Nat) (l5 : Int32), xlpn (fun (B : Int32 → Prop) a => lbX12_wordAt_19 Q B5 l0 l1 l2 l3 l4 M (fun l5 => B (l5)) a) n (l5) → xX RX12 cX12_wordAt 6 (some .int) 1 19 [(0, .ref l0), (1, .int l1), (2, .int l2), (3, .int l3), (4, .int l4), (5, .int l5)] [] M (xQi (xP M Q)) := by
    intro n
    induction n with
    | zero => intro l5 h; exact False.elim h
    | succ n ih =>
      intro l5 h
      have hB19 := ih
      have h : lbX12_wordAt_19 Q B5 l0 l1 l2 l3 l4 M (fun l5 => xlpn (fun (B : Int32 → Prop) a => lbX12_wordAt_19 Q B5 l0 l1 l2 l3 l4 M (fun l5 => B (l5)) a) n (l5)) l5 := h
      unfold lbX12_wordAt_19 at h
      refine x_iload_n dX12_wordAt_19 rfl 20 rfl ?_
      refine x_iload dX12_wordAt_20 rfl 22 rfl ?_
      refine x_iadd dX12_wordAt_22 23 rfl ?_
      refine x_iload_n dX12_wordAt_23 rfl 24 rfl ?_
      refine x_icmp_ge dX12_wordAt_24 60 27 rfl rfl (fun hc => ?_) (fun hc => ?_)
      · have h := h.1 hc
        exact nX12_wordAt_60 hB5 hk_l0 h
      · have h := h.2 hc
        refine x_aload_n dX12_wordAt_27 rfl 28 rfl ?_
        refine gf12_16 dX12_wordAt_28 31 rfl hk_l0 kw5_175 ?_
        refine x_iload dX12_wordAt_31 rfl 33 rfl ?_
        refine x_iconst dX12_wordAt_33 kc_1 34 rfl ?_
        refine x_iadd dX12_wordAt_34 35 rfl ?_
        refine x_iload dX12_wordAt_35 rfl 37 rfl ?_
        refine x_iadd dX12_wordAt_37 38 rfl ?_
        obtain ⟨hin, h⟩ := h
        refine x_iaload dX12_wordAt_38 (ly12_16 hk_l0) hin 39 rfl ?_
        refine x_aload_n dX12_wordAt_39 rfl 40 rfl ?_
        refine gf12_10 dX12_wordAt_40 43 rfl hk_l0 kw5_169 ?_
        refine x_iload_n dX12_wordAt_43 rfl 44 rfl ?_
        refine x_iload dX12_wordAt_44 rfl 46 rfl ?_
        refine x_iadd dX12_wordAt_46 47 rfl ?_
        obtain ⟨hin, h⟩ := h
        refine x_iaload dX12_wordAt_47 (ly12_10 hk_l0) hin 48 rfl ?_
        refine x_icmp_ne dX12_wordAt_48 60 51 rfl rfl (fun hc => ?_) (fun hc => ?_)
        · have h := h.1 hc
          exact nX12_wordAt_60 hB5 hk_l0 h
        · have h := h.2 hc
          refine x_iload dX12_wordAt_51 rfl 53 rfl ?_
          refine x_iconst dX12_wordAt_53 kc_1 54 rfl ?_
          refine x_iadd dX12_wordAt_54 55 rfl ?_
          refine x_istore dX12_wordAt_55 (Nat.le_of_ble_eq_true rfl) [(0, .ref l0), (1, .int l1), (2, .int l2), (3, .int l3), (4, .int l4), (5, .int (l5 + 1))] rfl 57 rfl ?_
          refine x_goto dX12_wordAt_57 19 rfl ?_
          exact hB19 _ h
  exact hB19 n l5 h
def lbX12_wordAt_5 (Q : Int32 → Prop) (l0 : Nat) (l1 : Int32) (l2 : Int32) (M : Mem) (B5 : Int32 → Int32 → Prop) (l3 : Int32) (l4 : Int32) : Prop :=
  ((124 ≤ l4 → Q (-1)) ∧ (¬ 124 ≤ l4 → NX12_wordAt_19 Q B5 l0 l1 l2 (l3 + 1) l4 0 M))
def NX12_wordAt_5 (Q : Int32 → Prop) (l0 : Nat) (l1 : Int32) (l2 : Int32) (l3 : Int32) (l4 : Int32) (M : Mem) : Prop := xlp (fun (B : Int32 × Int32 → Prop) a => lbX12_wordAt_5 Q l0 l1 l2 M (fun l3 l4 => B (l3, l4)) a.1 a.2) (l3, l4)
theorem nX12_wordAt_5 {Q : Int32 → Prop} {l0 : Nat} {l1 : Int32} {l2 : Int32} {l3 : Int32} {l4 : Int32} {M : Mem} (hk_l0 : SHk l0 = 12) (h : NX12_wordAt_5 Q l0 l1 l2 l3 l4 M) : xX RX12 cX12_wordAt 6 (some .int) 1 5 [(0, .ref l0), (1, .int l1), (2, .int l2), (3, .int l3), (4, .int l4)] [] M (xQi (xP M Q)) := by
  obtain ⟨n, h⟩ := h
  have hB5 : ∀ (n : Nat) (l3 : Int32) (l4 : Int32), xlpn (fun (B : Int32 × Int32 → Prop) a => lbX12_wordAt_5 Q l0 l1 l2 M (fun l3 l4 => B (l3, l4)) a.1 a.2) n (l3, l4) → xX RX12 cX12_wordAt 6 (some .int) 1 5 [(0, .ref l0), (1, .int l1), (2, .int l2), (3, .int l3), (4, .int l4)] [] M (xQi (xP M Q)) := by
    intro n
    induction n with
    | zero => intro l3 l4 h; exact False.elim h
    | succ n ih =>
      intro l3 l4 h
      have hB5 := ih
      have h : lbX12_wordAt_5 Q l0 l1 l2 M (fun l3 l4 => xlpn (fun (B : Int32 × Int32 → Prop) a => lbX12_wordAt_5 Q l0 l1 l2 M (fun l3 l4 => B (l3, l4)) a.1 a.2) n (l3, l4)) l3 l4 := h
      unfold lbX12_wordAt_5 at h
      refine x_iload dX12_wordAt_5 rfl 7 rfl ?_
      refine x_bipush dX12_wordAt_7 kb_124 9 rfl ?_
      refine x_icmp_ge dX12_wordAt_9 117 12 rfl rfl (fun hc => ?_) (fun hc => ?_)
      · have h := h.1 hc
        refine x_iconst dX12_wordAt_117 kc_m1 118 rfl ?_
        exact x_iret dX12_wordAt_118 ⟨rfl, h⟩
      · have h := h.2 hc
        refine x_iconst dX12_wordAt_12 kc_0 13 rfl ?_
        refine x_istore dX12_wordAt_13 (Nat.le_of_ble_eq_true rfl) [(0, .ref l0), (1, .int l1), (2, .int l2), (3, .int l3), (4, .int l4), (5, .int 0)] rfl 15 rfl ?_
        refine x_iload_n dX12_wordAt_15 rfl 16 rfl ?_
        refine x_iconst dX12_wordAt_16 kc_1 17 rfl ?_
        refine x_iadd dX12_wordAt_17 18 rfl ?_
        refine x_istore_n dX12_wordAt_18 (Nat.le_of_ble_eq_true rfl) [(0, .ref l0), (1, .int l1), (2, .int l2), (3, .int (l3 + 1)), (4, .int l4), (5, .int 0)] rfl 19 rfl ?_
        exact nX12_wordAt_19 hB5 hk_l0 h
  exact hB5 n l3 l4 h
def FX12_wordAt (Q : Int32 → Prop) (l0 : Nat) (l1 : Int32) (l2 : Int32) (M : Mem) : Prop :=
  NX12_wordAt_5 Q l0 l1 l2 (-1) 0 M
theorem eX12_wordAt {Q : Int32 → Prop} {l0 : Nat} {l1 : Int32} {l2 : Int32} {M : Mem} (hk_l0 : SHk l0 = 12) (h : FX12_wordAt Q l0 l1 l2 M) : xX RX12 cX12_wordAt 6 (some .int) 1 0 [(0, .ref l0), (1, .int l1), (2, .int l2)] [] M (xQi (xP M Q)) := by
  unfold FX12_wordAt at h
  refine x_iconst dX12_wordAt_0 kc_m1 1 rfl ?_
  refine x_istore_n dX12_wordAt_1 (Nat.le_of_ble_eq_true rfl) [(0, .ref l0), (1, .int l1), (2, .int l2), (3, .int (-1))] rfl 2 rfl ?_
  refine x_iconst dX12_wordAt_2 kc_0 3 rfl ?_
  refine x_istore dX12_wordAt_3 (Nat.le_of_ble_eq_true rfl) [(0, .ref l0), (1, .int l1), (2, .int l2), (3, .int (-1)), (4, .int 0)] rfl 5 rfl ?_
  exact nX12_wordAt_5 hk_l0 h
theorem cX12_wordAt_ {Q : Int32 → Prop} {l0 : Nat} {l1 : Int32} {l2 : Int32} {M : Mem} (hk_l0 : SHk l0 = 12) (h : FX12_wordAt Q l0 l1 l2 M) : xM yX12_wordAt cX12_wordAt 6 (some .int) 1 [.ref l0, .int l1, .int l2] M (xQi (xP M Q)) := xM_of (by decide +kernel) (Nat.le_of_ble_eq_true rfl) (eX12_wordAt hk_l0 h)
theorem kX12_wordAt {own : String} {cc : ByteArray} {nL : Nat} {rt : Option FieldType} {d pc ix : Nat} {L : List (Nat × Value)} {st : List Value} {M : Mem} {Rt : xGt → Array Value → State → Outcome → State → Prop} {Q : Int32 → Prop} {l0 : Nat} {l1 : Int32} {l2 : Int32} (hd : decode cc pc = .ok (.invokevirtual ix, 3)) (q : Nat) (hq : pc + 3 = q) (hk_l0 : SHk l0 = 12) (w1 : Cond.methodLink own ix yX12_wordAt ∈ xTs) (hr : 1 < d) (hst : (st.map fun v => v.category).sum ≤ 8) (h : FX12_wordAt Q l0 l1 l2 M) (k : ∀ (r : Int32), Q r → xX own cc nL rt d q L (.int r :: st) M Rt) : xX own cc nL rt d pc L (.int l2 :: .int l1 :: .ref l0 :: st) M Rt :=
  x_callV_i (n := 2) (As := [.int l1, .int l2]) hd q hq hk_l0 (by decide) rfl rfl w1 kw6_160 ks3_15 kw1_14 kw6_161 (by decide +kernel) rfl hr (by decide) hst _ rfl (cX12_wordAt_ hk_l0 h) (fun r N hN => by obtain ⟨rfl, hN⟩ := hN; exact k r hN)
def NX12_reads_26 (Q : Mem → Prop) (B0 : Mem → Prop) (l0 : Nat) (M : Mem) : Prop :=
  ∀ M1 : Mem, M1 = xu M l0 12 ((M l0 12) + 1) → B0 M1
theorem nX12_reads_26 {Q : Mem → Prop} {B0 : Mem → Prop} {l0 : Nat} {M : Mem} (hB0 : ∀ (M : Mem), B0 M → xX RX12 cX12_reads 2 none 3 0 [(0, .ref l0)] [] M (xQv Q)) (hk_l0 : SHk l0 = 12) (h : NX12_reads_26 Q B0 l0 M) : xX RX12 cX12_reads 2 none 3 26 [(0, .ref l0)] [] M (xQv Q) := by
  unfold NX12_reads_26 at h
  refine x_aload_n dX12_reads_26 rfl 27 rfl ?_
  refine x_aload_n dX12_reads_27 rfl 28 rfl ?_
  refine gf12_12 dX12_reads_28 31 rfl hk_l0 kw5_171 ?_
  refine x_iconst dX12_reads_31 kc_1 32 rfl ?_
  refine x_iadd dX12_reads_32 33 rfl ?_
  refine pf12_12 dX12_reads_33 36 rfl hk_l0 kw5_171 (x_mem (fun M1 hM1 => ?_))
  have h := h M1 hM1
  refine x_goto dX12_reads_36 0 rfl ?_
  exact hB0 _ h
def lbX12_reads_95 (Q : Mem → Prop) (l0 : Nat) (B95 : Mem → Prop) (M : Mem) : Prop :=
  FX12_raw (fun (r2 : Int32) => FX12_isLetter (fun (r3 : Bool) => ((r3 = false → FX12_wordAt (fun (r4 : Int32) => ∀ M5 : Mem, M5 = xu M l0 15 r4 → (((M5 l0 15) = (-1) → Q M5) ∧ (¬ (M5 l0 15) = (-1) → ∀ M6 : Mem, M6 = xu M5 l0 14 2 → Q M6))) l0 (M l0 13) (M l0 12) M) ∧ (r3 = true → ∀ M7 : Mem, M7 = xu M l0 12 ((M l0 12) + 1) → B95 M7))) l0 r2 M) l0 (M l0 12) M
def NX12_reads_95 (Q : Mem → Prop) (l0 : Nat) (M : Mem) : Prop := xlp (fun (B : Mem → Prop) a => lbX12_reads_95 Q l0 (fun M => B (M)) a) (M)
theorem nX12_reads_95 {Q : Mem → Prop} {l0 : Nat} {M : Mem} (hk_l0 : SHk l0 = 12) (h : NX12_reads_95 Q l0 M) : xX RX12 cX12_reads 2 none 3 95 [(0, .ref l0)] [] M (xQv Q) := by
  obtain ⟨n, h⟩ := h
  have hB95 : ∀ (n : Nat) (M : Mem), xlpn (fun (B : Mem → Prop) a => lbX12_reads_95 Q l0 (fun M => B (M)) a) n (M) → xX RX12 cX12_reads 2 none 3 95 [(0, .ref l0)] [] M (xQv Q) := by
    intro n
    induction n with
    | zero => intro M h; exact False.elim h
    | succ n ih =>
      intro M h
      have hB95 := ih
      have h : lbX12_reads_95 Q l0 (fun M => xlpn (fun (B : Mem → Prop) a => lbX12_reads_95 Q l0 (fun M => B (M)) a) n (M)) M := h
      unfold lbX12_reads_95 at h
      refine x_aload_n dX12_reads_95 rfl 96 rfl ?_
      refine x_aload_n dX12_reads_96 rfl 97 rfl ?_
      refine x_aload_n dX12_reads_97 rfl 98 rfl ?_
      refine gf12_12 dX12_reads_98 101 rfl hk_l0 kw5_171 ?_
      refine kX12_raw dX12_reads_101 104 rfl hk_l0 kw6_150 (Nat.le_of_ble_eq_true rfl) (Nat.le_of_ble_eq_true rfl) h (fun r2 h => ?_)
      refine kX12_isLetter dX12_reads_104 107 rfl hk_l0 kw6_154 (Nat.le_of_ble_eq_true rfl) (Nat.le_of_ble_eq_true rfl) h (fun r3 h => ?_)
      refine x_if_eq_b dX12_reads_107 123 110 rfl rfl (fun hc => ?_) (fun hc => ?_)
      · have h := h.1 hc
        refine x_aload_n dX12_reads_123 rfl 124 rfl ?_
        refine x_aload_n dX12_reads_124 rfl 125 rfl ?_
        refine x_aload_n dX12_reads_125 rfl 126 rfl ?_
        refine gf12_13 dX12_reads_126 129 rfl hk_l0 kw5_172 ?_
        refine x_aload_n dX12_reads_129 rfl 130 rfl ?_
        refine gf12_12 dX12_reads_130 133 rfl hk_l0 kw5_171 ?_
        refine kX12_wordAt dX12_reads_133 136 rfl hk_l0 kw6_158 (Nat.le_of_ble_eq_true rfl) (Nat.le_of_ble_eq_true rfl) h (fun r4 h => ?_)
        refine pf12_15 dX12_reads_136 139 rfl hk_l0 kw5_174 (x_mem (fun M5 hM5 => ?_))
        have h := h M5 hM5
        refine x_aload_n dX12_reads_139 rfl 140 rfl ?_
        refine gf12_15 dX12_reads_140 143 rfl hk_l0 kw5_174 ?_
        refine x_iconst dX12_reads_143 kc_m1 144 rfl ?_
        refine x_icmp_eq dX12_reads_144 273 147 rfl rfl (fun hc => ?_) (fun hc => ?_)
        · have h := h.1 hc
          exact x_vret dX12_reads_273 h
        · have h := h.2 hc
          refine x_aload_n dX12_reads_147 rfl 148 rfl ?_
          refine x_iconst dX12_reads_148 kc_2 149 rfl ?_
          refine pf12_14 dX12_reads_149 152 rfl hk_l0 kw5_173 (x_mem (fun M6 hM6 => ?_))
          have h := h M6 hM6
          refine x_goto dX12_reads_152 273 rfl ?_
          exact x_vret dX12_reads_273 h
      · have h := h.2 hc
        refine x_aload_n dX12_reads_110 rfl 111 rfl ?_
        refine x_aload_n dX12_reads_111 rfl 112 rfl ?_
        refine gf12_12 dX12_reads_112 115 rfl hk_l0 kw5_171 ?_
        refine x_iconst dX12_reads_115 kc_1 116 rfl ?_
        refine x_iadd dX12_reads_116 117 rfl ?_
        refine pf12_12 dX12_reads_117 120 rfl hk_l0 kw5_171 (x_mem (fun M7 hM7 => ?_))
        have h := h M7 hM7
        refine x_goto dX12_reads_120 95 rfl ?_
        exact hB95 _ h
  exact hB95 n M h
def NX12_reads_223 (Q : Mem → Prop) (B171 : Mem → Prop) (l0 : Nat) (s0 : Nat) (s1 : Int32) (M : Mem) : Prop :=
  ∀ M8 : Mem, M8 = xu M s0 15 s1 → ∀ M9 : Mem, M9 = xu M8 l0 12 ((M8 l0 12) + 1) → B171 M9
theorem nX12_reads_223 {Q : Mem → Prop} {B171 : Mem → Prop} {l0 : Nat} {s0 : Nat} {s1 : Int32} {M : Mem} (hB171 : ∀ (M : Mem), B171 M → xX RX12 cX12_reads 2 none 3 171 [(0, .ref l0)] [] M (xQv Q)) (hk_l0 : SHk l0 = 12) (hk_s0 : SHk s0 = 12) (h : NX12_reads_223 Q B171 l0 s0 s1 M) : xX RX12 cX12_reads 2 none 3 223 [(0, .ref l0)] [.int s1, .ref s0] M (xQv Q) := by
  unfold NX12_reads_223 at h
  refine pf12_15 dX12_reads_223 226 rfl hk_s0 kw5_174 (x_mem (fun M8 hM8 => ?_))
  have h := h M8 hM8
  refine x_aload_n dX12_reads_226 rfl 227 rfl ?_
  refine x_aload_n dX12_reads_227 rfl 228 rfl ?_
  refine gf12_12 dX12_reads_228 231 rfl hk_l0 kw5_171 ?_
  refine x_iconst dX12_reads_231 kc_1 232 rfl ?_
  refine x_iadd dX12_reads_232 233 rfl ?_
  refine pf12_12 dX12_reads_233 236 rfl hk_l0 kw5_171 (x_mem (fun M9 hM9 => ?_))
  have h := h M9 hM9
  refine x_goto dX12_reads_236 171 rfl ?_
  exact hB171 _ h
def lbX12_reads_171 (Q : Mem → Prop) (l0 : Nat) (B171 : Mem → Prop) (M : Mem) : Prop :=
  FX12_raw (fun (r10 : Int32) => FX12_isDigit (fun (r11 : Bool) => ((r11 = false → ((5 ≤ ((M l0 12) - (M l0 13)) → Q M) ∧ (¬ 5 ≤ ((M l0 12) - (M l0 13)) → ∀ M12 : Mem, M12 = xu M l0 14 3 → Q M12))) ∧ (r11 = true → ((10000 ≤ (M l0 15) → NX12_reads_223 Q B171 l0 l0 (M l0 15) M) ∧ (¬ 10000 ≤ (M l0 15) → FX12_raw (fun (r13 : Int32) => NX12_reads_223 Q B171 l0 l0 (((10 * (M l0 15)) + r13) - 48) M) l0 (M l0 12) M))))) l0 r10 M) l0 (M l0 12) M
def NX12_reads_171 (Q : Mem → Prop) (l0 : Nat) (M : Mem) : Prop := xlp (fun (B : Mem → Prop) a => lbX12_reads_171 Q l0 (fun M => B (M)) a) (M)
theorem nX12_reads_171 {Q : Mem → Prop} {l0 : Nat} {M : Mem} (hk_l0 : SHk l0 = 12) (h : NX12_reads_171 Q l0 M) : xX RX12 cX12_reads 2 none 3 171 [(0, .ref l0)] [] M (xQv Q) := by
  obtain ⟨n, h⟩ := h
  have hB171 : ∀ (n : Nat) (M : Mem), xlpn (fun (B : Mem → Prop) a => lbX12_reads_171 Q l0 (fun M => B (M)) a) n (M) → xX RX12 cX12_reads 2 none 3 171 [(0, .ref l0)] [] M (xQv Q) := by
    intro n
    induction n with
    | zero => intro M h; exact False.elim h
    | succ n ih =>
      intro M h
      have hB171 := ih
      have h : lbX12_reads_171 Q l0 (fun M => xlpn (fun (B : Mem → Prop) a => lbX12_reads_171 Q l0 (fun M => B (M)) a) n (M)) M := h
      unfold lbX12_reads_171 at h
      refine x_aload_n dX12_reads_171 rfl 172 rfl ?_
      refine x_aload_n dX12_reads_172 rfl 173 rfl ?_
      refine x_aload_n dX12_reads_173 rfl 174 rfl ?_
      refine gf12_12 dX12_reads_174 177 rfl hk_l0 kw5_171 ?_
      refine kX12_raw dX12_reads_177 180 rfl hk_l0 kw6_150 (Nat.le_of_ble_eq_true rfl) (Nat.le_of_ble_eq_true rfl) h (fun r10 h => ?_)
      refine kX12_isDigit dX12_reads_180 183 rfl hk_l0 kw6_162 (Nat.le_of_ble_eq_true rfl) (Nat.le_of_ble_eq_true rfl) h (fun r11 h => ?_)
      refine x_if_eq_b dX12_reads_183 239 186 rfl rfl (fun hc => ?_) (fun hc => ?_)
      · have h := h.1 hc
        refine x_aload_n dX12_reads_239 rfl 240 rfl ?_
        refine gf12_12 dX12_reads_240 243 rfl hk_l0 kw5_171 ?_
        refine x_aload_n dX12_reads_243 rfl 244 rfl ?_
        refine gf12_13 dX12_reads_244 247 rfl hk_l0 kw5_172 ?_
        refine x_isub dX12_reads_247 248 rfl ?_
        refine x_iconst dX12_reads_248 kc_5 249 rfl ?_
        refine x_icmp_ge dX12_reads_249 273 252 rfl rfl (fun hc => ?_) (fun hc => ?_)
        · have h := h.1 hc
          exact x_vret dX12_reads_273 h
        · have h := h.2 hc
          refine x_aload_n dX12_reads_252 rfl 253 rfl ?_
          refine x_iconst dX12_reads_253 kc_3 254 rfl ?_
          refine pf12_14 dX12_reads_254 257 rfl hk_l0 kw5_173 (x_mem (fun M12 hM12 => ?_))
          have h := h M12 hM12
          refine x_goto dX12_reads_257 273 rfl ?_
          exact x_vret dX12_reads_273 h
      · have h := h.2 hc
        refine x_aload_n dX12_reads_186 rfl 187 rfl ?_
        refine x_aload_n dX12_reads_187 rfl 188 rfl ?_
        refine gf12_15 dX12_reads_188 191 rfl hk_l0 kw5_174 ?_
        refine x_sipush dX12_reads_191 kh_10000 194 rfl ?_
        refine x_icmp_ge dX12_reads_194 219 197 rfl rfl (fun hc => ?_) (fun hc => ?_)
        · have h := h.1 hc
          refine x_aload_n dX12_reads_219 rfl 220 rfl ?_
          refine gf12_15 dX12_reads_220 223 rfl hk_l0 kw5_174 ?_
          exact nX12_reads_223 hB171 hk_l0 hk_l0 h
        · have h := h.2 hc
          refine x_bipush dX12_reads_197 kb_10 199 rfl ?_
          refine x_aload_n dX12_reads_199 rfl 200 rfl ?_
          refine gf12_15 dX12_reads_200 203 rfl hk_l0 kw5_174 ?_
          refine x_imul dX12_reads_203 204 rfl ?_
          refine x_aload_n dX12_reads_204 rfl 205 rfl ?_
          refine x_aload_n dX12_reads_205 rfl 206 rfl ?_
          refine gf12_12 dX12_reads_206 209 rfl hk_l0 kw5_171 ?_
          refine kX12_raw dX12_reads_209 212 rfl hk_l0 kw6_150 (Nat.le_of_ble_eq_true rfl) (Nat.le_of_ble_eq_true rfl) h (fun r13 h => ?_)
          refine x_iadd dX12_reads_212 213 rfl ?_
          refine x_bipush dX12_reads_213 kb_48 215 rfl ?_
          refine x_isub dX12_reads_215 216 rfl ?_
          refine x_goto dX12_reads_216 223 rfl ?_
          exact nX12_reads_223 hB171 hk_l0 hk_l0 h
  exact hB171 n M h
def lbX12_reads_0 (Q : Mem → Prop) (l0 : Nat) (B0 : Mem → Prop) (M : Mem) : Prop :=
  FX12_raw (fun (r14 : Int32) => ((r14 = 32 → NX12_reads_26 Q B0 l0 M) ∧ (¬ r14 = 32 → FX12_raw (fun (r15 : Int32) => ((¬ r15 = 10 → ∀ M16 : Mem, M16 = xu M l0 13 (M l0 12) → ∀ M17 : Mem, M17 = xu M16 l0 14 1 → FX12_raw (fun (r18 : Int32) => ((¬ r18 = (-1) → ∀ M19 : Mem, M19 = xu M17 l0 12 ((M17 l0 12) + 1) → ∀ M20 : Mem, M20 = xu M19 l0 15 r18 → FX12_isLetter (fun (r21 : Bool) => ((r21 = false → FX12_isDigit (fun (r22 : Bool) => ((r22 = false → FX12_isMarkSign (fun (r23 : Bool) => ((r23 = false → Q M20) ∧ (r23 = true → ∀ M24 : Mem, M24 = xu M20 l0 14 4 → Q M24))) l0 r18 M20) ∧ (r22 = true → ∀ M25 : Mem, M25 = xu M20 l0 15 (r18 - 48) → NX12_reads_171 Q l0 M25))) l0 r18 M20) ∧ (r21 = true → NX12_reads_95 Q l0 M20))) l0 r18 M20) ∧ (r18 = (-1) → ∀ M26 : Mem, M26 = xu M17 l0 14 0 → Q M26))) l0 (M17 l0 12) M17) ∧ (r15 = 10 → NX12_reads_26 Q B0 l0 M))) l0 (M l0 12) M))) l0 (M l0 12) M
def NX12_reads_0 (Q : Mem → Prop) (l0 : Nat) (M : Mem) : Prop := xlp (fun (B : Mem → Prop) a => lbX12_reads_0 Q l0 (fun M => B (M)) a) (M)
theorem nX12_reads_0 {Q : Mem → Prop} {l0 : Nat} {M : Mem} (hk_l0 : SHk l0 = 12) (h : NX12_reads_0 Q l0 M) : xX RX12 cX12_reads 2 none 3 0 [(0, .ref l0)] [] M (xQv Q) := by
  obtain ⟨n, h⟩ := h
  have hB0 : ∀ (n : Nat) (M : Mem), xlpn (fun (B : Mem → Prop) a => lbX12_reads_0 Q l0 (fun M => B (M)) a) n (M) → xX RX12 cX12_reads 2 none 3 0 [(0, .ref l0)] [] M (xQv Q) := by
    intro n
    induction n with
    | zero => intro M h; exact False.elim h
    | succ n ih =>
      intro M h
      have hB0 := ih
      have h : lbX12_reads_0 Q l0 (fun M => xlpn (fun (B : Mem → Prop) a => lbX12_reads_0 Q l0 (fun M => B (M)) a) n (M)) M := h
      unfold lbX12_reads_0 at h
      refine x_aload_n dX12_reads_0 rfl 1 rfl ?_
      refine x_aload_n dX12_reads_1 rfl 2 rfl ?_
      refine gf12_12 dX12_reads_2 5 rfl hk_l0 kw5_171 ?_
      refine kX12_raw dX12_reads_5 8 rfl hk_l0 kw6_150 (Nat.le_of_ble_eq_true rfl) (Nat.le_of_ble_eq_true rfl) h (fun r14 h => ?_)
      refine x_bipush dX12_reads_8 kb_32 10 rfl ?_
      refine x_icmp_eq dX12_reads_10 26 13 rfl rfl (fun hc => ?_) (fun hc => ?_)
      · have h := h.1 hc
        exact nX12_reads_26 hB0 hk_l0 h
      · have h := h.2 hc
        refine x_aload_n dX12_reads_13 rfl 14 rfl ?_
        refine x_aload_n dX12_reads_14 rfl 15 rfl ?_
        refine gf12_12 dX12_reads_15 18 rfl hk_l0 kw5_171 ?_
        refine kX12_raw dX12_reads_18 21 rfl hk_l0 kw6_150 (Nat.le_of_ble_eq_true rfl) (Nat.le_of_ble_eq_true rfl) h (fun r15 h => ?_)
        refine x_bipush dX12_reads_21 kb_10 23 rfl ?_
        refine x_icmp_ne dX12_reads_23 39 26 rfl rfl (fun hc => ?_) (fun hc => ?_)
        · have h := h.1 hc
          refine x_aload_n dX12_reads_39 rfl 40 rfl ?_
          refine x_aload_n dX12_reads_40 rfl 41 rfl ?_
          refine gf12_12 dX12_reads_41 44 rfl hk_l0 kw5_171 ?_
          refine pf12_13 dX12_reads_44 47 rfl hk_l0 kw5_172 (x_mem (fun M16 hM16 => ?_))
          have h := h M16 hM16
          refine x_aload_n dX12_reads_47 rfl 48 rfl ?_
          refine x_iconst dX12_reads_48 kc_1 49 rfl ?_
          refine pf12_14 dX12_reads_49 52 rfl hk_l0 kw5_173 (x_mem (fun M17 hM17 => ?_))
          have h := h M17 hM17
          refine x_aload_n dX12_reads_52 rfl 53 rfl ?_
          refine x_aload_n dX12_reads_53 rfl 54 rfl ?_
          refine gf12_12 dX12_reads_54 57 rfl hk_l0 kw5_171 ?_
          refine kX12_raw dX12_reads_57 60 rfl hk_l0 kw6_150 (Nat.le_of_ble_eq_true rfl) (Nat.le_of_ble_eq_true rfl) h (fun r18 h => ?_)
          refine x_istore_n dX12_reads_60 (Nat.le_of_ble_eq_true rfl) [(0, .ref l0), (1, .int r18)] rfl 61 rfl ?_
          refine x_iload_n dX12_reads_61 rfl 62 rfl ?_
          refine x_iconst dX12_reads_62 kc_m1 63 rfl ?_
          refine x_icmp_ne dX12_reads_63 72 66 rfl rfl (fun hc => ?_) (fun hc => ?_)
          · have h := h.1 hc
            refine x_aload_n dX12_reads_72 rfl 73 rfl ?_
            refine x_aload_n dX12_reads_73 rfl 74 rfl ?_
            refine gf12_12 dX12_reads_74 77 rfl hk_l0 kw5_171 ?_
            refine x_iconst dX12_reads_77 kc_1 78 rfl ?_
            refine x_iadd dX12_reads_78 79 rfl ?_
            refine pf12_12 dX12_reads_79 82 rfl hk_l0 kw5_171 (x_mem (fun M19 hM19 => ?_))
            have h := h M19 hM19
            refine x_aload_n dX12_reads_82 rfl 83 rfl ?_
            refine x_iload_n dX12_reads_83 rfl 84 rfl ?_
            refine pf12_15 dX12_reads_84 87 rfl hk_l0 kw5_174 (x_mem (fun M20 hM20 => ?_))
            have h := h M20 hM20
            refine x_aload_n dX12_reads_87 rfl 88 rfl ?_
            refine x_iload_n dX12_reads_88 rfl 89 rfl ?_
            refine kX12_isLetter dX12_reads_89 92 rfl hk_l0 kw6_154 (Nat.le_of_ble_eq_true rfl) (Nat.le_of_ble_eq_true rfl) h (fun r21 h => ?_)
            refine x_if_eq_b dX12_reads_92 155 95 rfl rfl (fun hc => ?_) (fun hc => ?_)
            · have h := h.1 hc
              refine x_aload_n dX12_reads_155 rfl 156 rfl ?_
              refine x_iload_n dX12_reads_156 rfl 157 rfl ?_
              refine kX12_isDigit dX12_reads_157 160 rfl hk_l0 kw6_162 (Nat.le_of_ble_eq_true rfl) (Nat.le_of_ble_eq_true rfl) h (fun r22 h => ?_)
              refine x_if_eq_b dX12_reads_160 260 163 rfl rfl (fun hc => ?_) (fun hc => ?_)
              · have h := h.1 hc
                refine x_aload_n dX12_reads_260 rfl 261 rfl ?_
                refine x_iload_n dX12_reads_261 rfl 262 rfl ?_
                refine kX12_isMarkSign dX12_reads_262 265 rfl hk_l0 kw6_166 (Nat.le_of_ble_eq_true rfl) (Nat.le_of_ble_eq_true rfl) h (fun r23 h => ?_)
                refine x_if_eq_b dX12_reads_265 273 268 rfl rfl (fun hc => ?_) (fun hc => ?_)
                · have h := h.1 hc
                  exact x_vret dX12_reads_273 h
                · have h := h.2 hc
                  refine x_aload_n dX12_reads_268 rfl 269 rfl ?_
                  refine x_iconst dX12_reads_269 kc_4 270 rfl ?_
                  refine pf12_14 dX12_reads_270 273 rfl hk_l0 kw5_173 (x_mem (fun M24 hM24 => ?_))
                  have h := h M24 hM24
                  exact x_vret dX12_reads_273 h
              · have h := h.2 hc
                refine x_aload_n dX12_reads_163 rfl 164 rfl ?_
                refine x_iload_n dX12_reads_164 rfl 165 rfl ?_
                refine x_bipush dX12_reads_165 kb_48 167 rfl ?_
                refine x_isub dX12_reads_167 168 rfl ?_
                refine pf12_15 dX12_reads_168 171 rfl hk_l0 kw5_174 (x_mem (fun M25 hM25 => ?_))
                have h := h M25 hM25
                refine x_weak [(0, .ref l0)] [0] rfl ?_
                exact nX12_reads_171 hk_l0 h
            · have h := h.2 hc
              refine x_weak [(0, .ref l0)] [0] rfl ?_
              exact nX12_reads_95 hk_l0 h
          · have h := h.2 hc
            refine x_aload_n dX12_reads_66 rfl 67 rfl ?_
            refine x_iconst dX12_reads_67 kc_0 68 rfl ?_
            refine pf12_14 dX12_reads_68 71 rfl hk_l0 kw5_173 (x_mem (fun M26 hM26 => ?_))
            have h := h M26 hM26
            exact x_vret dX12_reads_71 h
        · have h := h.2 hc
          exact nX12_reads_26 hB0 hk_l0 h
  exact hB0 n M h
def FX12_reads (Q : Mem → Prop) (l0 : Nat) (M : Mem) : Prop :=
  NX12_reads_0 Q l0 M
theorem eX12_reads {Q : Mem → Prop} {l0 : Nat} {M : Mem} (hk_l0 : SHk l0 = 12) (h : FX12_reads Q l0 M) : xX RX12 cX12_reads 2 none 3 0 [(0, .ref l0)] [] M (xQv Q) := by
  unfold FX12_reads at h
  exact nX12_reads_0 hk_l0 h
theorem cX12_reads_ {Q : Mem → Prop} {l0 : Nat} {M : Mem} (hk_l0 : SHk l0 = 12) (h : FX12_reads Q l0 M) : xM yX12_reads cX12_reads 2 none 3 [.ref l0] M (xQv Q) := xM_of (by decide +kernel) (Nat.le_of_ble_eq_true rfl) (eX12_reads hk_l0 h)
theorem kX12_reads {own : String} {cc : ByteArray} {nL : Nat} {rt : Option FieldType} {d pc ix : Nat} {L : List (Nat × Value)} {st : List Value} {M : Mem} {Rt : xGt → Array Value → State → Outcome → State → Prop} {Q : Mem → Prop} {l0 : Nat} (hd : decode cc pc = .ok (.invokevirtual ix, 3)) (q : Nat) (hq : pc + 3 = q) (hk_l0 : SHk l0 = 12) (w1 : Cond.methodLink own ix yX12_reads ∈ xTs) (hr : 3 < d) (hst : (st.map fun v => v.category).sum ≤ 8) (h : FX12_reads Q l0 M) (k : ∀ (N : Mem), Q N → xX own cc nL rt d q L st N Rt) : xX own cc nL rt d pc L (.ref l0 :: st) M Rt :=
  x_callV_v (n := 0) (As := []) hd q hq hk_l0 (by decide) rfl rfl w1 kw6_148 ks3_12 kw1_14 kw6_149 (by decide +kernel) rfl hr (by decide) hst _ rfl (cX12_reads_ hk_l0 h) k
def FX12_errs (Q : Int32 → Mem → Prop) (l0 : Nat) (l1 : Int32) (M : Mem) : Prop :=
  ∀ M1 : Mem, M1 = xu M l0 29 l1 → ∀ M2 : Mem, M2 = xu M1 l0 30 (M1 l0 13) → Q (-1) M2
theorem eX12_errs {Q : Int32 → Mem → Prop} {l0 : Nat} {l1 : Int32} {M : Mem} (hk_l0 : SHk l0 = 12) (h : FX12_errs Q l0 l1 M) : xX RX12 cX12_errs 2 (some .int) 1 0 [(0, .ref l0), (1, .int l1)] [] M (xQi Q) := by
  unfold FX12_errs at h
  refine x_aload_n dX12_errs_0 rfl 1 rfl ?_
  refine x_iload_n dX12_errs_1 rfl 2 rfl ?_
  refine pf12_29 dX12_errs_2 5 rfl hk_l0 kw5_188 (x_mem (fun M1 hM1 => ?_))
  have h := h M1 hM1
  refine x_aload_n dX12_errs_5 rfl 6 rfl ?_
  refine x_aload_n dX12_errs_6 rfl 7 rfl ?_
  refine gf12_13 dX12_errs_7 10 rfl hk_l0 kw5_172 ?_
  refine pf12_30 dX12_errs_10 13 rfl hk_l0 kw5_189 (x_mem (fun M2 hM2 => ?_))
  have h := h M2 hM2
  refine x_iconst dX12_errs_13 kc_m1 14 rfl ?_
  exact x_iret dX12_errs_14 h
theorem cX12_errs_ {Q : Int32 → Mem → Prop} {l0 : Nat} {l1 : Int32} {M : Mem} (hk_l0 : SHk l0 = 12) (h : FX12_errs Q l0 l1 M) : xM yX12_errs cX12_errs 2 (some .int) 1 [.ref l0, .int l1] M (xQi Q) := xM_of (by decide +kernel) (Nat.le_of_ble_eq_true rfl) (eX12_errs hk_l0 h)
theorem kX12_errs {own : String} {cc : ByteArray} {nL : Nat} {rt : Option FieldType} {d pc ix : Nat} {L : List (Nat × Value)} {st : List Value} {M : Mem} {Rt : xGt → Array Value → State → Outcome → State → Prop} {Q : Int32 → Mem → Prop} {l0 : Nat} {l1 : Int32} (hd : decode cc pc = .ok (.invokevirtual ix, 3)) (q : Nat) (hq : pc + 3 = q) (hk_l0 : SHk l0 = 12) (w1 : Cond.methodLink own ix yX12_errs ∈ xTs) (hr : 1 < d) (hst : (st.map fun v => v.category).sum ≤ 8) (h : FX12_errs Q l0 l1 M) (k : ∀ (r : Int32) (N : Mem), Q r N → xX own cc nL rt d q L (.int r :: st) N Rt) : xX own cc nL rt d pc L (.int l1 :: .ref l0 :: st) M Rt :=
  x_callV_i (n := 1) (As := [.int l1]) hd q hq hk_l0 (by decide) rfl rfl w1 kw6_180 ks4_4 kw1_14 kw6_181 (by decide +kernel) rfl hr (by decide) hst _ rfl (cX12_errs_ hk_l0 h) k
def FX12_isWord (Q : Bool → Prop) (l0 : Nat) (l1 : Int32) (M : Mem) : Prop :=
  ((¬ (M l0 14) = 2 → Q false) ∧ ((M l0 14) = 2 → ((¬ (M l0 15) = l1 → Q false) ∧ ((M l0 15) = l1 → Q true))))
theorem eX12_isWord {Q : Bool → Prop} {l0 : Nat} {l1 : Int32} {M : Mem} (hk_l0 : SHk l0 = 12) (h : FX12_isWord Q l0 l1 M) : xX RX12 cX12_isWord 2 (some .boolean) 1 0 [(0, .ref l0), (1, .int l1)] [] M (xQb (xP M Q)) := by
  unfold FX12_isWord at h
  refine x_aload_n dX12_isWord_0 rfl 1 rfl ?_
  refine gf12_14 dX12_isWord_1 4 rfl hk_l0 kw5_173 ?_
  refine x_iconst dX12_isWord_4 kc_2 5 rfl ?_
  refine x_icmp_ne dX12_isWord_5 20 8 rfl rfl (fun hc => ?_) (fun hc => ?_)
  · have h := h.1 hc
    refine x_iconst dX12_isWord_20 kc_0 21 rfl ?_
    exact x_zret (z := false) dX12_isWord_21 ⟨rfl, h⟩
  · have h := h.2 hc
    refine x_aload_n dX12_isWord_8 rfl 9 rfl ?_
    refine gf12_15 dX12_isWord_9 12 rfl hk_l0 kw5_174 ?_
    refine x_iload_n dX12_isWord_12 rfl 13 rfl ?_
    refine x_icmp_ne dX12_isWord_13 20 16 rfl rfl (fun hc => ?_) (fun hc => ?_)
    · have h := h.1 hc
      refine x_iconst dX12_isWord_20 kc_0 21 rfl ?_
      exact x_zret (z := false) dX12_isWord_21 ⟨rfl, h⟩
    · have h := h.2 hc
      refine x_iconst dX12_isWord_16 kc_1 17 rfl ?_
      refine x_goto dX12_isWord_17 21 rfl ?_
      exact x_zret (z := true) dX12_isWord_21 ⟨rfl, h⟩
theorem cX12_isWord_ {Q : Bool → Prop} {l0 : Nat} {l1 : Int32} {M : Mem} (hk_l0 : SHk l0 = 12) (h : FX12_isWord Q l0 l1 M) : xM yX12_isWord cX12_isWord 2 (some .boolean) 1 [.ref l0, .int l1] M (xQb (xP M Q)) := xM_of (by decide +kernel) (Nat.le_of_ble_eq_true rfl) (eX12_isWord hk_l0 h)
theorem kX12_isWord {own : String} {cc : ByteArray} {nL : Nat} {rt : Option FieldType} {d pc ix : Nat} {L : List (Nat × Value)} {st : List Value} {M : Mem} {Rt : xGt → Array Value → State → Outcome → State → Prop} {Q : Bool → Prop} {l0 : Nat} {l1 : Int32} (hd : decode cc pc = .ok (.invokevirtual ix, 3)) (q : Nat) (hq : pc + 3 = q) (hk_l0 : SHk l0 = 12) (w1 : Cond.methodLink own ix yX12_isWord ∈ xTs) (hr : 1 < d) (hst : (st.map fun v => v.category).sum ≤ 8) (h : FX12_isWord Q l0 l1 M) (k : ∀ (r : Bool), Q r → xX own cc nL rt d q L (.int (bI r) :: st) M Rt) : xX own cc nL rt d pc L (.int l1 :: .ref l0 :: st) M Rt :=
  x_callV_b (n := 1) (As := [.int l1]) hd q hq hk_l0 (by decide) rfl rfl w1 kw6_176 ks4_3 kw1_14 kw6_177 (by decide +kernel) rfl hr (by decide) hst _ rfl (cX12_isWord_ hk_l0 h) (fun r N hN => by obtain ⟨rfl, hN⟩ := hN; exact k r hN)
def FX12_isSign (Q : Bool → Prop) (l0 : Nat) (l1 : Int32) (M : Mem) : Prop :=
  ((¬ (M l0 14) = 4 → Q false) ∧ ((M l0 14) = 4 → ((¬ (M l0 15) = l1 → Q false) ∧ ((M l0 15) = l1 → Q true))))
theorem eX12_isSign {Q : Bool → Prop} {l0 : Nat} {l1 : Int32} {M : Mem} (hk_l0 : SHk l0 = 12) (h : FX12_isSign Q l0 l1 M) : xX RX12 cX12_isSign 2 (some .boolean) 1 0 [(0, .ref l0), (1, .int l1)] [] M (xQb (xP M Q)) := by
  unfold FX12_isSign at h
  refine x_aload_n dX12_isSign_0 rfl 1 rfl ?_
  refine gf12_14 dX12_isSign_1 4 rfl hk_l0 kw5_173 ?_
  refine x_iconst dX12_isSign_4 kc_4 5 rfl ?_
  refine x_icmp_ne dX12_isSign_5 20 8 rfl rfl (fun hc => ?_) (fun hc => ?_)
  · have h := h.1 hc
    refine x_iconst dX12_isSign_20 kc_0 21 rfl ?_
    exact x_zret (z := false) dX12_isSign_21 ⟨rfl, h⟩
  · have h := h.2 hc
    refine x_aload_n dX12_isSign_8 rfl 9 rfl ?_
    refine gf12_15 dX12_isSign_9 12 rfl hk_l0 kw5_174 ?_
    refine x_iload_n dX12_isSign_12 rfl 13 rfl ?_
    refine x_icmp_ne dX12_isSign_13 20 16 rfl rfl (fun hc => ?_) (fun hc => ?_)
    · have h := h.1 hc
      refine x_iconst dX12_isSign_20 kc_0 21 rfl ?_
      exact x_zret (z := false) dX12_isSign_21 ⟨rfl, h⟩
    · have h := h.2 hc
      refine x_iconst dX12_isSign_16 kc_1 17 rfl ?_
      refine x_goto dX12_isSign_17 21 rfl ?_
      exact x_zret (z := true) dX12_isSign_21 ⟨rfl, h⟩
theorem cX12_isSign_ {Q : Bool → Prop} {l0 : Nat} {l1 : Int32} {M : Mem} (hk_l0 : SHk l0 = 12) (h : FX12_isSign Q l0 l1 M) : xM yX12_isSign cX12_isSign 2 (some .boolean) 1 [.ref l0, .int l1] M (xQb (xP M Q)) := xM_of (by decide +kernel) (Nat.le_of_ble_eq_true rfl) (eX12_isSign hk_l0 h)
theorem kX12_isSign {own : String} {cc : ByteArray} {nL : Nat} {rt : Option FieldType} {d pc ix : Nat} {L : List (Nat × Value)} {st : List Value} {M : Mem} {Rt : xGt → Array Value → State → Outcome → State → Prop} {Q : Bool → Prop} {l0 : Nat} {l1 : Int32} (hd : decode cc pc = .ok (.invokevirtual ix, 3)) (q : Nat) (hq : pc + 3 = q) (hk_l0 : SHk l0 = 12) (w1 : Cond.methodLink own ix yX12_isSign ∈ xTs) (hr : 1 < d) (hst : (st.map fun v => v.category).sum ≤ 8) (h : FX12_isSign Q l0 l1 M) (k : ∀ (r : Bool), Q r → xX own cc nL rt d q L (.int (bI r) :: st) M Rt) : xX own cc nL rt d pc L (.int l1 :: .ref l0 :: st) M Rt :=
  x_callV_b (n := 1) (As := [.int l1]) hd q hq hk_l0 (by decide) rfl rfl w1 kw6_196 ks4_8 kw1_14 kw6_197 (by decide +kernel) rfl hr (by decide) hst _ rfl (cX12_isSign_ hk_l0 h) (fun r N hN => by obtain ⟨rfl, hN⟩ := hN; exact k r hN)
def FX12_emits (Q : Mem → Prop) (l0 : Nat) (l1 : Int32) (l2 : Int32) (M : Mem) : Prop :=
  vp_in (800 + (M l0 25)) 1200 ∧ ∀ M1 : Mem, M1 = xu M (l0 + 13) (ix (800 + (M l0 25))) l1 → vp_in (800 + (M1 l0 25)) 1200 ∧ ∀ M2 : Mem, M2 = xu M1 (l0 + 14) (ix (800 + (M1 l0 25))) l2 → ∀ M3 : Mem, M3 = xu M2 l0 25 ((M2 l0 25) + 1) → Q M3
theorem eX12_emits {Q : Mem → Prop} {l0 : Nat} {l1 : Int32} {l2 : Int32} {M : Mem} (hk_l0 : SHk l0 = 12) (h : FX12_emits Q l0 l1 l2 M) : xX RX12 cX12_emits 3 none 1 0 [(0, .ref l0), (1, .int l1), (2, .int l2)] [] M (xQv Q) := by
  unfold FX12_emits at h
  refine x_aload_n dX12_emits_0 rfl 1 rfl ?_
  refine gf12_22 dX12_emits_1 4 rfl hk_l0 kw5_181 ?_
  refine x_sipush dX12_emits_4 kh_800 7 rfl ?_
  refine x_aload_n dX12_emits_7 rfl 8 rfl ?_
  refine gf12_25 dX12_emits_8 11 rfl hk_l0 kw5_184 ?_
  refine x_iadd dX12_emits_11 12 rfl ?_
  refine x_iload_n dX12_emits_12 rfl 13 rfl ?_
  obtain ⟨hin, h⟩ := h
  refine x_iastore dX12_emits_13 (ly12_22 hk_l0) hin 14 rfl (x_mem (fun M1 hM1 => ?_))
  have h := h M1 hM1
  refine x_aload_n dX12_emits_14 rfl 15 rfl ?_
  refine gf12_23 dX12_emits_15 18 rfl hk_l0 kw5_182 ?_
  refine x_sipush dX12_emits_18 kh_800 21 rfl ?_
  refine x_aload_n dX12_emits_21 rfl 22 rfl ?_
  refine gf12_25 dX12_emits_22 25 rfl hk_l0 kw5_184 ?_
  refine x_iadd dX12_emits_25 26 rfl ?_
  refine x_iload_n dX12_emits_26 rfl 27 rfl ?_
  obtain ⟨hin, h⟩ := h
  refine x_iastore dX12_emits_27 (ly12_23 hk_l0) hin 28 rfl (x_mem (fun M2 hM2 => ?_))
  have h := h M2 hM2
  refine x_aload_n dX12_emits_28 rfl 29 rfl ?_
  refine x_aload_n dX12_emits_29 rfl 30 rfl ?_
  refine gf12_25 dX12_emits_30 33 rfl hk_l0 kw5_184 ?_
  refine x_iconst dX12_emits_33 kc_1 34 rfl ?_
  refine x_iadd dX12_emits_34 35 rfl ?_
  refine pf12_25 dX12_emits_35 38 rfl hk_l0 kw5_184 (x_mem (fun M3 hM3 => ?_))
  have h := h M3 hM3
  exact x_vret dX12_emits_38 h
theorem cX12_emits_ {Q : Mem → Prop} {l0 : Nat} {l1 : Int32} {l2 : Int32} {M : Mem} (hk_l0 : SHk l0 = 12) (h : FX12_emits Q l0 l1 l2 M) : xM yX12_emits cX12_emits 3 none 1 [.ref l0, .int l1, .int l2] M (xQv Q) := xM_of (by decide +kernel) (Nat.le_of_ble_eq_true rfl) (eX12_emits hk_l0 h)
theorem kX12_emits {own : String} {cc : ByteArray} {nL : Nat} {rt : Option FieldType} {d pc ix : Nat} {L : List (Nat × Value)} {st : List Value} {M : Mem} {Rt : xGt → Array Value → State → Outcome → State → Prop} {Q : Mem → Prop} {l0 : Nat} {l1 : Int32} {l2 : Int32} (hd : decode cc pc = .ok (.invokevirtual ix, 3)) (q : Nat) (hq : pc + 3 = q) (hk_l0 : SHk l0 = 12) (w1 : Cond.methodLink own ix yX12_emits ∈ xTs) (hr : 1 < d) (hst : (st.map fun v => v.category).sum ≤ 8) (h : FX12_emits Q l0 l1 l2 M) (k : ∀ (N : Mem), Q N → xX own cc nL rt d q L st N Rt) : xX own cc nL rt d pc L (.int l2 :: .int l1 :: .ref l0 :: st) M Rt :=
  x_callV_v (n := 2) (As := [.int l1, .int l2]) hd q hq hk_l0 (by decide) rfl rfl w1 kw7_4 ks5_4 kw1_14 kw7_5 (by decide +kernel) rfl hr (by decide) hst _ rfl (cX12_emits_ hk_l0 h) k
def FX12_canAsk (Q : Bool → Prop) (l0 : Nat) (l1 : Int32) (M : Mem) : Prop :=
  FX12_isIn (fun (r1 : Bool) => Q r1) l0 l1 7 15 M
theorem eX12_canAsk {Q : Bool → Prop} {l0 : Nat} {l1 : Int32} {M : Mem} (hk_l0 : SHk l0 = 12) (h : FX12_canAsk Q l0 l1 M) : xX RX12 cX12_canAsk 2 (some .boolean) 2 0 [(0, .ref l0), (1, .int l1)] [] M (xQb (xP M Q)) := by
  unfold FX12_canAsk at h
  refine x_aload_n dX12_canAsk_0 rfl 1 rfl ?_
  refine x_iload_n dX12_canAsk_1 rfl 2 rfl ?_
  refine x_bipush dX12_canAsk_2 kb_7 4 rfl ?_
  refine x_bipush dX12_canAsk_4 kb_15 6 rfl ?_
  refine kX12_isIn dX12_canAsk_6 9 rfl hk_l0 kw6_82 (Nat.le_of_ble_eq_true rfl) (Nat.le_of_ble_eq_true rfl) h (fun r1 h => ?_)
  exact x_zret dX12_canAsk_9 ⟨rfl, h⟩
theorem cX12_canAsk_ {Q : Bool → Prop} {l0 : Nat} {l1 : Int32} {M : Mem} (hk_l0 : SHk l0 = 12) (h : FX12_canAsk Q l0 l1 M) : xM yX12_canAsk cX12_canAsk 2 (some .boolean) 2 [.ref l0, .int l1] M (xQb (xP M Q)) := xM_of (by decide +kernel) (Nat.le_of_ble_eq_true rfl) (eX12_canAsk hk_l0 h)
theorem kX12_canAsk {own : String} {cc : ByteArray} {nL : Nat} {rt : Option FieldType} {d pc ix : Nat} {L : List (Nat × Value)} {st : List Value} {M : Mem} {Rt : xGt → Array Value → State → Outcome → State → Prop} {Q : Bool → Prop} {l0 : Nat} {l1 : Int32} (hd : decode cc pc = .ok (.invokevirtual ix, 3)) (q : Nat) (hq : pc + 3 = q) (hk_l0 : SHk l0 = 12) (w1 : Cond.methodLink own ix yX12_canAsk ∈ xTs) (hr : 2 < d) (hst : (st.map fun v => v.category).sum ≤ 8) (h : FX12_canAsk Q l0 l1 M) (k : ∀ (r : Bool), Q r → xX own cc nL rt d q L (.int (bI r) :: st) M Rt) : xX own cc nL rt d pc L (.int l1 :: .ref l0 :: st) M Rt :=
  x_callV_b (n := 1) (As := [.int l1]) hd q hq hk_l0 (by decide) rfl rfl w1 kw7_0 ks5_3 kw1_14 kw7_1 (by decide +kernel) rfl hr (by decide) hst _ rfl (cX12_canAsk_ hk_l0 h) (fun r N hN => by obtain ⟨rfl, hN⟩ := hN; exact k r hN)
def NX12_readUnit_71 (Q : Int32 → Mem → Prop) (l0 : Nat) (s0 : Nat) (s1 : Int32) (s2 : Int32) (M : Mem) : Prop :=
  FX12_emits (fun (M1 : Mem) => FX12_reads (fun (M2 : Mem) => Q 0 M2) l0 M1) s0 s1 s2 M
theorem nX12_readUnit_71 {Q : Int32 → Mem → Prop} {l0 : Nat} {s0 : Nat} {s1 : Int32} {s2 : Int32} {M : Mem} (hk_l0 : SHk l0 = 12) (hk_s0 : SHk s0 = 12) (h : NX12_readUnit_71 Q l0 s0 s1 s2 M) : xX RX12 cX12_readUnit 2 (some .int) 4 71 [(0, .ref l0)] [.int s2, .int s1, .ref s0] M (xQi Q) := by
  unfold NX12_readUnit_71 at h
  refine kX12_emits dX12_readUnit_71 74 rfl hk_s0 kw7_2 (Nat.le_of_ble_eq_true rfl) (Nat.le_of_ble_eq_true rfl) h (fun M1 h => ?_)
  refine x_aload_n dX12_readUnit_74 rfl 75 rfl ?_
  refine kX12_reads dX12_readUnit_75 78 rfl hk_l0 kw6_146 (Nat.le_of_ble_eq_true rfl) (Nat.le_of_ble_eq_true rfl) h (fun M2 h => ?_)
  refine x_iconst dX12_readUnit_78 kc_0 79 rfl ?_
  exact x_iret dX12_readUnit_79 h
def NX12_readUnit_53 (Q : Int32 → Mem → Prop) (l0 : Nat) (l1 : Int32) (s0 : Nat) (s1 : Int32) (M : Mem) : Prop :=
  ((l1 = 0 → NX12_readUnit_71 Q l0 s0 s1 (M l0 15) M) ∧ (¬ l1 = 0 → NX12_readUnit_71 Q l0 s0 s1 ((M l0 15) - 7) M))
theorem nX12_readUnit_53 {Q : Int32 → Mem → Prop} {l0 : Nat} {l1 : Int32} {s0 : Nat} {s1 : Int32} {M : Mem} (hk_l0 : SHk l0 = 12) (hk_s0 : SHk s0 = 12) (h : NX12_readUnit_53 Q l0 l1 s0 s1 M) : xX RX12 cX12_readUnit 2 (some .int) 4 53 [(0, .ref l0), (1, .int l1)] [.int s1, .ref s0] M (xQi Q) := by
  unfold NX12_readUnit_53 at h
  refine x_iload_n dX12_readUnit_53 rfl 54 rfl ?_
  refine x_if_eq dX12_readUnit_54 67 57 rfl rfl (fun hc => ?_) (fun hc => ?_)
  · have h := h.1 hc
    refine x_aload_n dX12_readUnit_67 rfl 68 rfl ?_
    refine gf12_15 dX12_readUnit_68 71 rfl hk_l0 kw5_174 ?_
    refine x_weak [(0, .ref l0)] [0] rfl ?_
    exact nX12_readUnit_71 hk_l0 hk_s0 h
  · have h := h.2 hc
    refine x_aload_n dX12_readUnit_57 rfl 58 rfl ?_
    refine gf12_15 dX12_readUnit_58 61 rfl hk_l0 kw5_174 ?_
    refine x_bipush dX12_readUnit_61 kb_7 63 rfl ?_
    refine x_isub dX12_readUnit_63 64 rfl ?_
    refine x_goto dX12_readUnit_64 71 rfl ?_
    refine x_weak [(0, .ref l0)] [0] rfl ?_
    exact nX12_readUnit_71 hk_l0 hk_s0 h
def NX12_readUnit_43 (Q : Int32 → Mem → Prop) (l0 : Nat) (l1 : Int32) (M : Mem) : Prop :=
  ((l1 = 0 → NX12_readUnit_53 Q l0 l1 l0 0 M) ∧ (¬ l1 = 0 → NX12_readUnit_53 Q l0 l1 l0 1 M))
theorem nX12_readUnit_43 {Q : Int32 → Mem → Prop} {l0 : Nat} {l1 : Int32} {M : Mem} (hk_l0 : SHk l0 = 12) (h : NX12_readUnit_43 Q l0 l1 M) : xX RX12 cX12_readUnit 2 (some .int) 4 43 [(0, .ref l0), (1, .int l1)] [] M (xQi Q) := by
  unfold NX12_readUnit_43 at h
  refine x_aload_n dX12_readUnit_43 rfl 44 rfl ?_
  refine x_iload_n dX12_readUnit_44 rfl 45 rfl ?_
  refine x_if_eq dX12_readUnit_45 52 48 rfl rfl (fun hc => ?_) (fun hc => ?_)
  · have h := h.1 hc
    refine x_iconst dX12_readUnit_52 kc_0 53 rfl ?_
    exact nX12_readUnit_53 hk_l0 hk_l0 h
  · have h := h.2 hc
    refine x_iconst dX12_readUnit_48 kc_1 49 rfl ?_
    refine x_goto dX12_readUnit_49 53 rfl ?_
    exact nX12_readUnit_53 hk_l0 hk_l0 h
def NX12_readUnit_24 (Q : Int32 → Mem → Prop) (l0 : Nat) (s0 : Int32) (M : Mem) : Prop :=
  ((¬ s0 = 0 → NX12_readUnit_43 Q l0 s0 M) ∧ (s0 = 0 → (((M l0 14) = 3 → NX12_readUnit_43 Q l0 s0 M) ∧ (¬ (M l0 14) = 3 → FX12_errs (fun (r4 : Int32) (M3 : Mem) => Q r4 M3) l0 1 M))))
theorem nX12_readUnit_24 {Q : Int32 → Mem → Prop} {l0 : Nat} {s0 : Int32} {M : Mem} (hk_l0 : SHk l0 = 12) (h : NX12_readUnit_24 Q l0 s0 M) : xX RX12 cX12_readUnit 2 (some .int) 4 24 [(0, .ref l0)] [.int s0] M (xQi Q) := by
  unfold NX12_readUnit_24 at h
  refine x_istore_n dX12_readUnit_24 (Nat.le_of_ble_eq_true rfl) [(0, .ref l0), (1, .int s0)] rfl 25 rfl ?_
  refine x_iload_n dX12_readUnit_25 rfl 26 rfl ?_
  refine x_if_ne dX12_readUnit_26 43 29 rfl rfl (fun hc => ?_) (fun hc => ?_)
  · have h := h.1 hc
    exact nX12_readUnit_43 hk_l0 h
  · have h := h.2 hc
    refine x_aload_n dX12_readUnit_29 rfl 30 rfl ?_
    refine gf12_14 dX12_readUnit_30 33 rfl hk_l0 kw5_173 ?_
    refine x_iconst dX12_readUnit_33 kc_3 34 rfl ?_
    refine x_icmp_eq dX12_readUnit_34 43 37 rfl rfl (fun hc => ?_) (fun hc => ?_)
    · have h := h.1 hc
      exact nX12_readUnit_43 hk_l0 h
    · have h := h.2 hc
      refine x_aload_n dX12_readUnit_37 rfl 38 rfl ?_
      refine x_iconst dX12_readUnit_38 kc_1 39 rfl ?_
      refine kX12_errs dX12_readUnit_39 42 rfl hk_l0 kw6_178 (Nat.le_of_ble_eq_true rfl) (Nat.le_of_ble_eq_true rfl) h (fun r4 M3 h => ?_)
      exact x_iret dX12_readUnit_42 h
def NX12_readUnit_23 (Q : Int32 → Mem → Prop) (l0 : Nat) (M : Mem) : Prop :=
  NX12_readUnit_24 Q l0 0 M
theorem nX12_readUnit_23 {Q : Int32 → Mem → Prop} {l0 : Nat} {M : Mem} (hk_l0 : SHk l0 = 12) (h : NX12_readUnit_23 Q l0 M) : xX RX12 cX12_readUnit 2 (some .int) 4 23 [(0, .ref l0)] [] M (xQi Q) := by
  unfold NX12_readUnit_23 at h
  refine x_iconst dX12_readUnit_23 kc_0 24 rfl ?_
  exact nX12_readUnit_24 hk_l0 h
def FX12_readUnit (Q : Int32 → Mem → Prop) (l0 : Nat) (M : Mem) : Prop :=
  ((¬ (M l0 14) = 2 → NX12_readUnit_23 Q l0 M) ∧ ((M l0 14) = 2 → FX12_canAsk (fun (r5 : Bool) => ((r5 = false → NX12_readUnit_23 Q l0 M) ∧ (r5 = true → NX12_readUnit_24 Q l0 1 M))) l0 (M l0 15) M))
theorem eX12_readUnit {Q : Int32 → Mem → Prop} {l0 : Nat} {M : Mem} (hk_l0 : SHk l0 = 12) (h : FX12_readUnit Q l0 M) : xX RX12 cX12_readUnit 2 (some .int) 4 0 [(0, .ref l0)] [] M (xQi Q) := by
  unfold FX12_readUnit at h
  refine x_aload_n dX12_readUnit_0 rfl 1 rfl ?_
  refine gf12_14 dX12_readUnit_1 4 rfl hk_l0 kw5_173 ?_
  refine x_iconst dX12_readUnit_4 kc_2 5 rfl ?_
  refine x_icmp_ne dX12_readUnit_5 23 8 rfl rfl (fun hc => ?_) (fun hc => ?_)
  · have h := h.1 hc
    exact nX12_readUnit_23 hk_l0 h
  · have h := h.2 hc
    refine x_aload_n dX12_readUnit_8 rfl 9 rfl ?_
    refine x_aload_n dX12_readUnit_9 rfl 10 rfl ?_
    refine gf12_15 dX12_readUnit_10 13 rfl hk_l0 kw5_174 ?_
    refine kX12_canAsk dX12_readUnit_13 16 rfl hk_l0 kw6_238 (Nat.le_of_ble_eq_true rfl) (Nat.le_of_ble_eq_true rfl) h (fun r5 h => ?_)
    refine x_if_eq_b dX12_readUnit_16 23 19 rfl rfl (fun hc => ?_) (fun hc => ?_)
    · have h := h.1 hc
      exact nX12_readUnit_23 hk_l0 h
    · have h := h.2 hc
      refine x_iconst dX12_readUnit_19 kc_1 20 rfl ?_
      refine x_goto dX12_readUnit_20 24 rfl ?_
      exact nX12_readUnit_24 hk_l0 h
theorem cX12_readUnit_ {Q : Int32 → Mem → Prop} {l0 : Nat} {M : Mem} (hk_l0 : SHk l0 = 12) (h : FX12_readUnit Q l0 M) : xM yX12_readUnit cX12_readUnit 2 (some .int) 4 [.ref l0] M (xQi Q) := xM_of (by decide +kernel) (Nat.le_of_ble_eq_true rfl) (eX12_readUnit hk_l0 h)
theorem kX12_readUnit {own : String} {cc : ByteArray} {nL : Nat} {rt : Option FieldType} {d pc ix : Nat} {L : List (Nat × Value)} {st : List Value} {M : Mem} {Rt : xGt → Array Value → State → Outcome → State → Prop} {Q : Int32 → Mem → Prop} {l0 : Nat} (hd : decode cc pc = .ok (.invokevirtual ix, 3)) (q : Nat) (hq : pc + 3 = q) (hk_l0 : SHk l0 = 12) (w1 : Cond.methodLink own ix yX12_readUnit ∈ xTs) (hr : 4 < d) (hst : (st.map fun v => v.category).sum ≤ 8) (h : FX12_readUnit Q l0 M) (k : ∀ (r : Int32) (N : Mem), Q r N → xX own cc nL rt d q L (.int r :: st) N Rt) : xX own cc nL rt d pc L (.ref l0 :: st) M Rt :=
  x_callV_i (n := 0) (As := []) hd q hq hk_l0 (by decide) rfl rfl w1 kw6_236 ks5_2 kw1_14 kw6_237 (by decide +kernel) rfl hr (by decide) hst _ rfl (cX12_readUnit_ hk_l0 h) k
