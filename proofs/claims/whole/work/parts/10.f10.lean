def lbX12_lineOf_2 (Q : Int32 → Mem → Prop) (l0 : Nat) (l1 : Int32) (B2 : Int32 → Mem → Prop) (l2 : Int32) (M : Mem) : Prop :=
  (((M (l0 + 8) 0) ≤ l2 → Q (-1) M) ∧ (¬ (M (l0 + 8) 0) ≤ l2 → vp_in l2 48 ∧ ((¬ (M (l0 + 9) (ix l2)) = l1 → B2 (l2 + 1) M) ∧ ((M (l0 + 9) (ix l2)) = l1 → vp_in l2 48 ∧ vp_in l2 48 ∧ (((M (l0 + 11) (ix l2)) = (M (l0 + 12) (ix l2)) → Q l2 M) ∧ (¬ (M (l0 + 11) (ix l2)) = (M (l0 + 12) (ix l2)) → vp_in l2 48 ∧ vp_in l2 48 ∧ FX12_runs (fun (r2 : Int32) (M1 : Mem) => ((r2 = 0 → B2 (l2 + 1) M1) ∧ (¬ r2 = 0 → Q l2 M1))) l0 0 (M (l0 + 11) (ix l2)) (M (l0 + 12) (ix l2)) M))))))
def NX12_lineOf_2 (Q : Int32 → Mem → Prop) (l0 : Nat) (l1 : Int32) (l2 : Int32) (M : Mem) : Prop := xlp (fun (B : Int32 × Mem → Prop) a => lbX12_lineOf_2 Q l0 l1 (fun l2 M => B (l2, M)) a.1 a.2) (l2, M)
theorem nX12_lineOf_2 {Q : Int32 → Mem → Prop} {l0 : Nat} {l1 : Int32} {l2 : Int32} {M : Mem} (hk_l0 : SHk l0 = 12) (h : NX12_lineOf_2 Q l0 l1 l2 M) : xX RX12 cX12_lineOf 3 (some .int) 3 2 [(0, .ref l0), (1, .int l1), (2, .int l2)] [] M (xQi Q) := by
  obtain ⟨n, h⟩ := h
  have hB2 : ∀ (n : Nat) (l2 : Int32) (M : Mem), xlpn (fun (B : Int32 × Mem → Prop) a => lbX12_lineOf_2 Q l0 l1 (fun l2 M => B (l2, M)) a.1 a.2) n (l2, M) → xX RX12 cX12_lineOf 3 (some .int) 3 2 [(0, .ref l0), (1, .int l1), (2, .int l2)] [] M (xQi Q) := by
    intro n
    induction n with
    | zero => intro l2 M h; exact False.elim h
    | succ n ih =>
      intro l2 M h
      have hB2 := ih
      have h : lbX12_lineOf_2 Q l0 l1 (fun l2 M => xlpn (fun (B : Int32 × Mem → Prop) a => lbX12_lineOf_2 Q l0 l1 (fun l2 M => B (l2, M)) a.1 a.2) n (l2, M)) l2 M := h
      unfold lbX12_lineOf_2 at h
      refine x_iload_n dX12_lineOf_2 rfl 3 rfl ?_
      refine x_aload_n dX12_lineOf_3 rfl 4 rfl ?_
      refine gf12_17 dX12_lineOf_4 7 rfl hk_l0 kw5_176 ?_
      refine x_iconst dX12_lineOf_7 kc_0 8 rfl ?_
      refine x_iaload dX12_lineOf_8 (ly12_17 hk_l0) (by unfold vp_in; decide) 9 rfl ?_
      refine x_icmp_ge dX12_lineOf_9 65 12 rfl rfl (fun hc => ?_) (fun hc => ?_)
      · have h := h.1 hc
        refine x_iconst dX12_lineOf_65 kc_m1 66 rfl ?_
        exact x_iret dX12_lineOf_66 h
      · have h := h.2 hc
        refine x_aload_n dX12_lineOf_12 rfl 13 rfl ?_
        refine gf12_18 dX12_lineOf_13 16 rfl hk_l0 kw5_177 ?_
        refine x_iload_n dX12_lineOf_16 rfl 17 rfl ?_
        obtain ⟨hin, h⟩ := h
        refine x_iaload dX12_lineOf_17 (ly12_18 hk_l0) hin 18 rfl ?_
        refine x_iload_n dX12_lineOf_18 rfl 19 rfl ?_
        refine x_icmp_ne dX12_lineOf_19 59 22 rfl rfl (fun hc => ?_) (fun hc => ?_)
        · have h := h.1 hc
          refine x_iinc dX12_lineOf_59 rfl (congrArg (l2 + ·) kc_1) (Nat.le_of_ble_eq_true rfl) [(0, .ref l0), (1, .int l1), (2, .int (l2 + 1))] rfl 62 rfl ?_
          refine x_goto dX12_lineOf_62 2 rfl ?_
          exact hB2 _ _ h
        · have h := h.2 hc
          refine x_aload_n dX12_lineOf_22 rfl 23 rfl ?_
          refine gf12_20 dX12_lineOf_23 26 rfl hk_l0 kw5_179 ?_
          refine x_iload_n dX12_lineOf_26 rfl 27 rfl ?_
          obtain ⟨hin, h⟩ := h
          refine x_iaload dX12_lineOf_27 (ly12_20 hk_l0) hin 28 rfl ?_
          refine x_aload_n dX12_lineOf_28 rfl 29 rfl ?_
          refine gf12_21 dX12_lineOf_29 32 rfl hk_l0 kw5_180 ?_
          refine x_iload_n dX12_lineOf_32 rfl 33 rfl ?_
          obtain ⟨hin, h⟩ := h
          refine x_iaload dX12_lineOf_33 (ly12_21 hk_l0) hin 34 rfl ?_
          refine x_icmp_eq dX12_lineOf_34 57 37 rfl rfl (fun hc => ?_) (fun hc => ?_)
          · have h := h.1 hc
            refine x_iload_n dX12_lineOf_57 rfl 58 rfl ?_
            exact x_iret dX12_lineOf_58 h
          · have h := h.2 hc
            refine x_aload_n dX12_lineOf_37 rfl 38 rfl ?_
            refine x_iconst dX12_lineOf_38 kc_0 39 rfl ?_
            refine x_aload_n dX12_lineOf_39 rfl 40 rfl ?_
            refine gf12_20 dX12_lineOf_40 43 rfl hk_l0 kw5_179 ?_
            refine x_iload_n dX12_lineOf_43 rfl 44 rfl ?_
            obtain ⟨hin, h⟩ := h
            refine x_iaload dX12_lineOf_44 (ly12_20 hk_l0) hin 45 rfl ?_
            refine x_aload_n dX12_lineOf_45 rfl 46 rfl ?_
            refine gf12_21 dX12_lineOf_46 49 rfl hk_l0 kw5_180 ?_
            refine x_iload_n dX12_lineOf_49 rfl 50 rfl ?_
            obtain ⟨hin, h⟩ := h
            refine x_iaload dX12_lineOf_50 (ly12_21 hk_l0) hin 51 rfl ?_
            refine kX12_runs dX12_lineOf_51 54 rfl hk_l0 kw7_118 (Nat.le_of_ble_eq_true rfl) (Nat.le_of_ble_eq_true rfl) h (fun r2 M1 h => ?_)
            refine x_if_eq dX12_lineOf_54 59 57 rfl rfl (fun hc => ?_) (fun hc => ?_)
            · have h := h.1 hc
              refine x_iinc dX12_lineOf_59 rfl (congrArg (l2 + ·) kc_1) (Nat.le_of_ble_eq_true rfl) [(0, .ref l0), (1, .int l1), (2, .int (l2 + 1))] rfl 62 rfl ?_
              refine x_goto dX12_lineOf_62 2 rfl ?_
              exact hB2 _ _ h
            · have h := h.2 hc
              refine x_iload_n dX12_lineOf_57 rfl 58 rfl ?_
              exact x_iret dX12_lineOf_58 h
  exact hB2 n l2 M h
def FX12_lineOf (Q : Int32 → Mem → Prop) (l0 : Nat) (l1 : Int32) (M : Mem) : Prop :=
  NX12_lineOf_2 Q l0 l1 0 M
theorem eX12_lineOf {Q : Int32 → Mem → Prop} {l0 : Nat} {l1 : Int32} {M : Mem} (hk_l0 : SHk l0 = 12) (h : FX12_lineOf Q l0 l1 M) : xX RX12 cX12_lineOf 3 (some .int) 3 0 [(0, .ref l0), (1, .int l1)] [] M (xQi Q) := by
  unfold FX12_lineOf at h
  refine x_iconst dX12_lineOf_0 kc_0 1 rfl ?_
  refine x_istore_n dX12_lineOf_1 (Nat.le_of_ble_eq_true rfl) [(0, .ref l0), (1, .int l1), (2, .int 0)] rfl 2 rfl ?_
  exact nX12_lineOf_2 hk_l0 h
theorem cX12_lineOf_ {Q : Int32 → Mem → Prop} {l0 : Nat} {l1 : Int32} {M : Mem} (hk_l0 : SHk l0 = 12) (h : FX12_lineOf Q l0 l1 M) : xM yX12_lineOf cX12_lineOf 3 (some .int) 3 [.ref l0, .int l1] M (xQi Q) := xM_of (by decide +kernel) (Nat.le_of_ble_eq_true rfl) (eX12_lineOf hk_l0 h)
theorem kX12_lineOf {own : String} {cc : ByteArray} {nL : Nat} {rt : Option FieldType} {d pc ix : Nat} {L : List (Nat × Value)} {st : List Value} {M : Mem} {Rt : xGt → Array Value → State → Outcome → State → Prop} {Q : Int32 → Mem → Prop} {l0 : Nat} {l1 : Int32} (hd : decode cc pc = .ok (.invokevirtual ix, 3)) (q : Nat) (hq : pc + 3 = q) (hk_l0 : SHk l0 = 12) (w1 : Cond.methodLink own ix yX12_lineOf ∈ xTs) (hr : 3 < d) (hst : (st.map fun v => v.category).sum ≤ 8) (h : FX12_lineOf Q l0 l1 M) (k : ∀ (r : Int32) (N : Mem), Q r N → xX own cc nL rt d q L (.int r :: st) N Rt) : xX own cc nL rt d pc L (.int l1 :: .ref l0 :: st) M Rt :=
  x_callV_i (n := 1) (As := [.int l1]) hd q hq hk_l0 (by decide) rfl rfl w1 kw7_116 ks6_13 kw1_14 kw7_117 (by decide +kernel) rfl hr (by decide) hst _ rfl (cX12_lineOf_ hk_l0 h) k
def NX12_aboveOf_20 (Q : Int32 → Prop) (l0 : Nat) (l1 : Int32) (s0 : Int32) (M : Mem) : Prop :=
  ((¬ s0 = (-1) → FX12_sitterOf (fun (r1 : Int32) => vp_in (21 + r1) 107 ∧ Q (M (l0 + 1) (ix (21 + r1)))) l0 s0 M) ∧ (s0 = (-1) → vp_in (21 + l1) 107 ∧ Q (M (l0 + 1) (ix (21 + l1)))))
theorem nX12_aboveOf_20 {Q : Int32 → Prop} {l0 : Nat} {l1 : Int32} {s0 : Int32} {M : Mem} (hk_l0 : SHk l0 = 12) (h : NX12_aboveOf_20 Q l0 l1 s0 M) : xX RX12 cX12_aboveOf 4 (some .int) 3 20 [(0, .ref l0), (1, .int l1)] [.int s0] M (xQi (xP M Q)) := by
  unfold NX12_aboveOf_20 at h
  refine x_istore_n dX12_aboveOf_20 (Nat.le_of_ble_eq_true rfl) [(0, .ref l0), (1, .int l1), (3, .int s0)] rfl 21 rfl ?_
  refine x_aload_n dX12_aboveOf_21 rfl 22 rfl ?_
  refine gf12_1 dX12_aboveOf_22 25 rfl hk_l0 kw5_160 ?_
  refine x_bipush dX12_aboveOf_25 kb_21 27 rfl ?_
  refine x_iload_n dX12_aboveOf_27 rfl 28 rfl ?_
  refine x_iconst dX12_aboveOf_28 kc_m1 29 rfl ?_
  refine x_icmp_ne dX12_aboveOf_29 36 32 rfl rfl (fun hc => ?_) (fun hc => ?_)
  · have h := h.1 hc
    refine x_aload_n dX12_aboveOf_36 rfl 37 rfl ?_
    refine x_iload_n dX12_aboveOf_37 rfl 38 rfl ?_
    refine kX12_sitterOf dX12_aboveOf_38 41 rfl hk_l0 kw6_90 (Nat.le_of_ble_eq_true rfl) (Nat.le_of_ble_eq_true rfl) h (fun r1 h => ?_)
    refine x_iadd dX12_aboveOf_41 42 rfl ?_
    obtain ⟨hin, h⟩ := h
    refine x_iaload dX12_aboveOf_42 (ly12_1 hk_l0) hin 43 rfl ?_
    exact x_iret dX12_aboveOf_43 ⟨rfl, h⟩
  · have h := h.2 hc
    refine x_iload_n dX12_aboveOf_32 rfl 33 rfl ?_
    refine x_goto dX12_aboveOf_33 41 rfl ?_
    refine x_iadd dX12_aboveOf_41 42 rfl ?_
    obtain ⟨hin, h⟩ := h
    refine x_iaload dX12_aboveOf_42 (ly12_1 hk_l0) hin 43 rfl ?_
    exact x_iret dX12_aboveOf_43 ⟨rfl, h⟩
def FX12_aboveOf (Q : Int32 → Prop) (l0 : Nat) (l1 : Int32) (M : Mem) : Prop :=
  FX12_pillarOf (fun (r2 : Int32) => ((¬ r2 = (-1) → FX12_nextAbove (fun (r3 : Int32) => NX12_aboveOf_20 Q l0 l1 r3 M) l0 r2 M) ∧ (r2 = (-1) → NX12_aboveOf_20 Q l0 l1 (-1) M))) l0 l1 M
theorem eX12_aboveOf {Q : Int32 → Prop} {l0 : Nat} {l1 : Int32} {M : Mem} (hk_l0 : SHk l0 = 12) (h : FX12_aboveOf Q l0 l1 M) : xX RX12 cX12_aboveOf 4 (some .int) 3 0 [(0, .ref l0), (1, .int l1)] [] M (xQi (xP M Q)) := by
  unfold FX12_aboveOf at h
  refine x_aload_n dX12_aboveOf_0 rfl 1 rfl ?_
  refine x_iload_n dX12_aboveOf_1 rfl 2 rfl ?_
  refine kX12_pillarOf dX12_aboveOf_2 5 rfl hk_l0 kw7_46 (Nat.le_of_ble_eq_true rfl) (Nat.le_of_ble_eq_true rfl) h (fun r2 h => ?_)
  refine x_istore_n dX12_aboveOf_5 (Nat.le_of_ble_eq_true rfl) [(0, .ref l0), (1, .int l1), (2, .int r2)] rfl 6 rfl ?_
  refine x_iload_n dX12_aboveOf_6 rfl 7 rfl ?_
  refine x_iconst dX12_aboveOf_7 kc_m1 8 rfl ?_
  refine x_icmp_ne dX12_aboveOf_8 15 11 rfl rfl (fun hc => ?_) (fun hc => ?_)
  · have h := h.1 hc
    refine x_aload_n dX12_aboveOf_15 rfl 16 rfl ?_
    refine x_iload_n dX12_aboveOf_16 rfl 17 rfl ?_
    refine kX12_nextAbove dX12_aboveOf_17 20 rfl hk_l0 kw7_106 (Nat.le_of_ble_eq_true rfl) (Nat.le_of_ble_eq_true rfl) h (fun r3 h => ?_)
    refine x_weak [(0, .ref l0), (1, .int l1)] [0, 1] rfl ?_
    exact nX12_aboveOf_20 hk_l0 h
  · have h := h.2 hc
    refine x_iconst dX12_aboveOf_11 kc_m1 12 rfl ?_
    refine x_goto dX12_aboveOf_12 20 rfl ?_
    refine x_weak [(0, .ref l0), (1, .int l1)] [0, 1] rfl ?_
    exact nX12_aboveOf_20 hk_l0 h
theorem cX12_aboveOf_ {Q : Int32 → Prop} {l0 : Nat} {l1 : Int32} {M : Mem} (hk_l0 : SHk l0 = 12) (h : FX12_aboveOf Q l0 l1 M) : xM yX12_aboveOf cX12_aboveOf 4 (some .int) 3 [.ref l0, .int l1] M (xQi (xP M Q)) := xM_of (by decide +kernel) (Nat.le_of_ble_eq_true rfl) (eX12_aboveOf hk_l0 h)
theorem kX12_aboveOf {own : String} {cc : ByteArray} {nL : Nat} {rt : Option FieldType} {d pc ix : Nat} {L : List (Nat × Value)} {st : List Value} {M : Mem} {Rt : xGt → Array Value → State → Outcome → State → Prop} {Q : Int32 → Prop} {l0 : Nat} {l1 : Int32} (hd : decode cc pc = .ok (.invokevirtual ix, 3)) (q : Nat) (hq : pc + 3 = q) (hk_l0 : SHk l0 = 12) (w1 : Cond.methodLink own ix yX12_aboveOf ∈ xTs) (hr : 3 < d) (hst : (st.map fun v => v.category).sum ≤ 8) (h : FX12_aboveOf Q l0 l1 M) (k : ∀ (r : Int32), Q r → xX own cc nL rt d q L (.int r :: st) M Rt) : xX own cc nL rt d pc L (.int l1 :: .ref l0 :: st) M Rt :=
  x_callV_i (n := 1) (As := [.int l1]) hd q hq hk_l0 (by decide) rfl rfl w1 kw7_104 ks6_10 kw1_14 kw7_105 (by decide +kernel) rfl hr (by decide) hst _ rfl (cX12_aboveOf_ hk_l0 h) (fun r N hN => by obtain ⟨rfl, hN⟩ := hN; exact k r hN)
def NX12_asks_95 (Q : Mem → Prop) (l0 : Nat) (l1 : Int32) (s0 : Nat) (s1 : Int32) (s2 : Int32) (M : Mem) : Prop :=
  vp_in s1 (SHn s0) ∧ ∀ M1 : Mem, M1 = xu M s0 (ix s1) s2 → ∀ M2 : Mem, M2 = xu M1 (l0 + 19) (6) (M1 (l0 + 1) 5) → FX12_aboveOf (fun (r3 : Int32) => ∀ M4 : Mem, M4 = xu M2 (l0 + 19) (7) r3 → ∀ M5 : Mem, M5 = xu M4 (l0 + 19) (8) (M4 (l0 + 1) 0) → Q M5) l0 l1 M2
theorem nX12_asks_95 {Q : Mem → Prop} {l0 : Nat} {l1 : Int32} {s0 : Nat} {s1 : Int32} {s2 : Int32} {M : Mem} (hk_l0 : SHk l0 = 12) (hk_s0 : SHk s0 = 13) (h : NX12_asks_95 Q l0 l1 s0 s1 s2 M) : xX RX12 cX12_asks 3 none 4 95 [(0, .ref l0), (1, .int l1)] [.int s2, .int s1, .ref s0] M (xQv Q) := by
  unfold NX12_asks_95 at h
  obtain ⟨hin, h⟩ := h
  refine x_iastore dX12_asks_95 ⟨hk_s0, rfl⟩ hin 96 rfl (x_mem (fun M1 hM1 => ?_))
  have h := h M1 hM1
  refine x_aload_n dX12_asks_96 rfl 97 rfl ?_
  refine gf12_39 dX12_asks_97 100 rfl hk_l0 kw5_198 ?_
  refine x_bipush dX12_asks_100 kb_6 102 rfl ?_
  refine x_aload_n dX12_asks_102 rfl 103 rfl ?_
  refine gf12_1 dX12_asks_103 106 rfl hk_l0 kw5_160 ?_
  refine x_iconst dX12_asks_106 kc_5 107 rfl ?_
  refine x_iaload dX12_asks_107 (ly12_1 hk_l0) (by unfold vp_in; decide) 108 rfl ?_
  refine x_iastore dX12_asks_108 (ly12_39 hk_l0) (by unfold vp_in; decide) 109 rfl (x_mem (fun M2 hM2 => ?_))
  have h := h M2 hM2
  refine x_aload_n dX12_asks_109 rfl 110 rfl ?_
  refine gf12_39 dX12_asks_110 113 rfl hk_l0 kw5_198 ?_
  refine x_bipush dX12_asks_113 kb_7 115 rfl ?_
  refine x_aload_n dX12_asks_115 rfl 116 rfl ?_
  refine x_iload_n dX12_asks_116 rfl 117 rfl ?_
  refine kX12_aboveOf dX12_asks_117 120 rfl hk_l0 kw7_102 (Nat.le_of_ble_eq_true rfl) (Nat.le_of_ble_eq_true rfl) h (fun r3 h => ?_)
  refine x_iastore dX12_asks_120 (ly12_39 hk_l0) (by unfold vp_in; decide) 121 rfl (x_mem (fun M4 hM4 => ?_))
  have h := h M4 hM4
  refine x_aload_n dX12_asks_121 rfl 122 rfl ?_
  refine gf12_39 dX12_asks_122 125 rfl hk_l0 kw5_198 ?_
  refine x_bipush dX12_asks_125 kb_8 127 rfl ?_
  refine x_aload_n dX12_asks_127 rfl 128 rfl ?_
  refine gf12_1 dX12_asks_128 131 rfl hk_l0 kw5_160 ?_
  refine x_iconst dX12_asks_131 kc_0 132 rfl ?_
  refine x_iaload dX12_asks_132 (ly12_1 hk_l0) (by unfold vp_in; decide) 133 rfl ?_
  refine x_iastore dX12_asks_133 (ly12_39 hk_l0) (by unfold vp_in; decide) 134 rfl (x_mem (fun M5 hM5 => ?_))
  have h := h M5 hM5
  exact x_vret dX12_asks_134 h
def FX12_asks (Q : Mem → Prop) (l0 : Nat) (l1 : Int32) (M : Mem) : Prop :=
  FX12_pillarOf (fun (r6 : Int32) => vp_in (7 + l1) 107 ∧ ∀ M7 : Mem, M7 = xu M (l0 + 19) (0) (M (l0 + 1) (ix (7 + l1))) → vp_in l1 14 ∧ ∀ M8 : Mem, M8 = xu M7 (l0 + 19) (1) (M7 (l0 + 4) (ix l1)) → vp_in (21 + l1) 107 ∧ ∀ M9 : Mem, M9 = xu M8 (l0 + 19) (2) (M8 (l0 + 1) (ix (21 + l1))) → vp_in (35 + l1) 107 ∧ ∀ M10 : Mem, M10 = xu M9 (l0 + 19) (3) (M9 (l0 + 1) (ix (35 + l1))) → ∀ M11 : Mem, M11 = xu M10 (l0 + 19) (4) (r6 + 1) → ((¬ r6 = (-1) → vp_in (63 + r6) 107 ∧ NX12_asks_95 Q l0 l1 (l0 + 19) 5 (M11 (l0 + 1) (ix (63 + r6))) M11) ∧ (r6 = (-1) → NX12_asks_95 Q l0 l1 (l0 + 19) 5 0 M11))) l0 l1 M
theorem eX12_asks {Q : Mem → Prop} {l0 : Nat} {l1 : Int32} {M : Mem} (hk_l0 : SHk l0 = 12) (h : FX12_asks Q l0 l1 M) : xX RX12 cX12_asks 3 none 4 0 [(0, .ref l0), (1, .int l1)] [] M (xQv Q) := by
  unfold FX12_asks at h
  refine x_aload_n dX12_asks_0 rfl 1 rfl ?_
  refine x_iload_n dX12_asks_1 rfl 2 rfl ?_
  refine kX12_pillarOf dX12_asks_2 5 rfl hk_l0 kw7_46 (Nat.le_of_ble_eq_true rfl) (Nat.le_of_ble_eq_true rfl) h (fun r6 h => ?_)
  refine x_istore_n dX12_asks_5 (Nat.le_of_ble_eq_true rfl) [(0, .ref l0), (1, .int l1), (2, .int r6)] rfl 6 rfl ?_
  refine x_aload_n dX12_asks_6 rfl 7 rfl ?_
  refine gf12_39 dX12_asks_7 10 rfl hk_l0 kw5_198 ?_
  refine x_iconst dX12_asks_10 kc_0 11 rfl ?_
  refine x_aload_n dX12_asks_11 rfl 12 rfl ?_
  refine gf12_1 dX12_asks_12 15 rfl hk_l0 kw5_160 ?_
  refine x_bipush dX12_asks_15 kb_7 17 rfl ?_
  refine x_iload_n dX12_asks_17 rfl 18 rfl ?_
  refine x_iadd dX12_asks_18 19 rfl ?_
  obtain ⟨hin, h⟩ := h
  refine x_iaload dX12_asks_19 (ly12_1 hk_l0) hin 20 rfl ?_
  refine x_iastore dX12_asks_20 (ly12_39 hk_l0) (by unfold vp_in; decide) 21 rfl (x_mem (fun M7 hM7 => ?_))
  have h := h M7 hM7
  refine x_aload_n dX12_asks_21 rfl 22 rfl ?_
  refine gf12_39 dX12_asks_22 25 rfl hk_l0 kw5_198 ?_
  refine x_iconst dX12_asks_25 kc_1 26 rfl ?_
  refine x_aload_n dX12_asks_26 rfl 27 rfl ?_
  refine gf12_8 dX12_asks_27 30 rfl hk_l0 kw5_167 ?_
  refine x_iload_n dX12_asks_30 rfl 31 rfl ?_
  obtain ⟨hin, h⟩ := h
  refine x_iaload dX12_asks_31 (ly12_8 hk_l0) hin 32 rfl ?_
  refine x_iastore dX12_asks_32 (ly12_39 hk_l0) (by unfold vp_in; decide) 33 rfl (x_mem (fun M8 hM8 => ?_))
  have h := h M8 hM8
  refine x_aload_n dX12_asks_33 rfl 34 rfl ?_
  refine gf12_39 dX12_asks_34 37 rfl hk_l0 kw5_198 ?_
  refine x_iconst dX12_asks_37 kc_2 38 rfl ?_
  refine x_aload_n dX12_asks_38 rfl 39 rfl ?_
  refine gf12_1 dX12_asks_39 42 rfl hk_l0 kw5_160 ?_
  refine x_bipush dX12_asks_42 kb_21 44 rfl ?_
  refine x_iload_n dX12_asks_44 rfl 45 rfl ?_
  refine x_iadd dX12_asks_45 46 rfl ?_
  obtain ⟨hin, h⟩ := h
  refine x_iaload dX12_asks_46 (ly12_1 hk_l0) hin 47 rfl ?_
  refine x_iastore dX12_asks_47 (ly12_39 hk_l0) (by unfold vp_in; decide) 48 rfl (x_mem (fun M9 hM9 => ?_))
  have h := h M9 hM9
  refine x_aload_n dX12_asks_48 rfl 49 rfl ?_
  refine gf12_39 dX12_asks_49 52 rfl hk_l0 kw5_198 ?_
  refine x_iconst dX12_asks_52 kc_3 53 rfl ?_
  refine x_aload_n dX12_asks_53 rfl 54 rfl ?_
  refine gf12_1 dX12_asks_54 57 rfl hk_l0 kw5_160 ?_
  refine x_bipush dX12_asks_57 kb_35 59 rfl ?_
  refine x_iload_n dX12_asks_59 rfl 60 rfl ?_
  refine x_iadd dX12_asks_60 61 rfl ?_
  obtain ⟨hin, h⟩ := h
  refine x_iaload dX12_asks_61 (ly12_1 hk_l0) hin 62 rfl ?_
  refine x_iastore dX12_asks_62 (ly12_39 hk_l0) (by unfold vp_in; decide) 63 rfl (x_mem (fun M10 hM10 => ?_))
  have h := h M10 hM10
  refine x_aload_n dX12_asks_63 rfl 64 rfl ?_
  refine gf12_39 dX12_asks_64 67 rfl hk_l0 kw5_198 ?_
  refine x_iconst dX12_asks_67 kc_4 68 rfl ?_
  refine x_iload_n dX12_asks_68 rfl 69 rfl ?_
  refine x_iconst dX12_asks_69 kc_1 70 rfl ?_
  refine x_iadd dX12_asks_70 71 rfl ?_
  refine x_iastore dX12_asks_71 (ly12_39 hk_l0) (by unfold vp_in; decide) 72 rfl (x_mem (fun M11 hM11 => ?_))
  have h := h M11 hM11
  refine x_aload_n dX12_asks_72 rfl 73 rfl ?_
  refine gf12_39 dX12_asks_73 76 rfl hk_l0 kw5_198 ?_
  refine x_iconst dX12_asks_76 kc_5 77 rfl ?_
  refine x_iload_n dX12_asks_77 rfl 78 rfl ?_
  refine x_iconst dX12_asks_78 kc_m1 79 rfl ?_
  refine x_icmp_ne dX12_asks_79 86 82 rfl rfl (fun hc => ?_) (fun hc => ?_)
  · have h := h.1 hc
    refine x_aload_n dX12_asks_86 rfl 87 rfl ?_
    refine gf12_1 dX12_asks_87 90 rfl hk_l0 kw5_160 ?_
    refine x_bipush dX12_asks_90 kb_63 92 rfl ?_
    refine x_iload_n dX12_asks_92 rfl 93 rfl ?_
    refine x_iadd dX12_asks_93 94 rfl ?_
    obtain ⟨hin, h⟩ := h
    refine x_iaload dX12_asks_94 (ly12_1 hk_l0) hin 95 rfl ?_
    refine x_weak [(0, .ref l0), (1, .int l1)] [0, 1] rfl ?_
    exact nX12_asks_95 hk_l0 (ly12_39 hk_l0).1 h
  · have h := h.2 hc
    refine x_iconst dX12_asks_82 kc_0 83 rfl ?_
    refine x_goto dX12_asks_83 95 rfl ?_
    refine x_weak [(0, .ref l0), (1, .int l1)] [0, 1] rfl ?_
    exact nX12_asks_95 hk_l0 (ly12_39 hk_l0).1 h
theorem cX12_asks_ {Q : Mem → Prop} {l0 : Nat} {l1 : Int32} {M : Mem} (hk_l0 : SHk l0 = 12) (h : FX12_asks Q l0 l1 M) : xM yX12_asks cX12_asks 3 none 4 [.ref l0, .int l1] M (xQv Q) := xM_of (by decide +kernel) (Nat.le_of_ble_eq_true rfl) (eX12_asks hk_l0 h)
theorem kX12_asks {own : String} {cc : ByteArray} {nL : Nat} {rt : Option FieldType} {d pc ix : Nat} {L : List (Nat × Value)} {st : List Value} {M : Mem} {Rt : xGt → Array Value → State → Outcome → State → Prop} {Q : Mem → Prop} {l0 : Nat} {l1 : Int32} (hd : decode cc pc = .ok (.invokevirtual ix, 3)) (q : Nat) (hq : pc + 3 = q) (hk_l0 : SHk l0 = 12) (w1 : Cond.methodLink own ix yX12_asks ∈ xTs) (hr : 4 < d) (hst : (st.map fun v => v.category).sum ≤ 8) (h : FX12_asks Q l0 l1 M) (k : ∀ (N : Mem), Q N → xX own cc nL rt d q L st N Rt) : xX own cc nL rt d pc L (.int l1 :: .ref l0 :: st) M Rt :=
  x_callV_v (n := 1) (As := [.int l1]) hd q hq hk_l0 (by decide) rfl rfl w1 kw7_100 ks6_9 kw1_14 kw7_101 (by decide +kernel) rfl hr (by decide) hst _ rfl (cX12_asks_ hk_l0 h) k
def NX12_lawTells_37 (Q : Int32 → Mem → Prop) (l3 : Int32) (l4 : Int32) (s0 : Nat) (s1 : Int32) (M : Mem) : Prop :=
  FX12_held (fun (r1 : Int32) => Q r1 M) s0 s1 l3 l4 M
theorem nX12_lawTells_37 {Q : Int32 → Mem → Prop} {l3 : Int32} {l4 : Int32} {s0 : Nat} {s1 : Int32} {M : Mem} (hk_s0 : SHk s0 = 12) (h : NX12_lawTells_37 Q l3 l4 s0 s1 M) : xX RX12 cX12_lawTells 6 (some .int) 4 37 [(3, .int l3), (4, .int l4)] [.int s1, .ref s0] M (xQi Q) := by
  unfold NX12_lawTells_37 at h
  refine x_iload_n dX12_lawTells_37 rfl 38 rfl ?_
  refine x_iload dX12_lawTells_38 rfl 40 rfl ?_
  refine kX12_held dX12_lawTells_40 43 rfl hk_s0 kw7_126 (Nat.le_of_ble_eq_true rfl) (Nat.le_of_ble_eq_true rfl) h (fun r1 h => ?_)
  exact x_iret dX12_lawTells_43 h
def FX12_lawTells (Q : Int32 → Mem → Prop) (l0 : Nat) (l1 : Int32) (l2 : Int32) (l3 : Int32) (l4 : Int32) (M : Mem) : Prop :=
  FX12_lineOf (fun (r3 : Int32) (M2 : Mem) => ((¬ r3 = (-1) → vp_in r3 48 ∧ vp_in r3 48 ∧ FX12_runs (fun (r5 : Int32) (M4 : Mem) => NX12_lawTells_37 Q l3 l4 l0 r5 M4) l0 0 (M2 (l0 + 10) (ix r3)) (M2 (l0 + 11) (ix r3)) M2) ∧ (r3 = (-1) → NX12_lawTells_37 Q l3 l4 l0 l2 M2))) l0 l1 M
theorem eX12_lawTells {Q : Int32 → Mem → Prop} {l0 : Nat} {l1 : Int32} {l2 : Int32} {l3 : Int32} {l4 : Int32} {M : Mem} (hk_l0 : SHk l0 = 12) (h : FX12_lawTells Q l0 l1 l2 l3 l4 M) : xX RX12 cX12_lawTells 6 (some .int) 4 0 [(0, .ref l0), (1, .int l1), (2, .int l2), (3, .int l3), (4, .int l4)] [] M (xQi Q) := by
  unfold FX12_lawTells at h
  refine x_aload_n dX12_lawTells_0 rfl 1 rfl ?_
  refine x_iload_n dX12_lawTells_1 rfl 2 rfl ?_
  refine kX12_lineOf dX12_lawTells_2 5 rfl hk_l0 kw7_114 (Nat.le_of_ble_eq_true rfl) (Nat.le_of_ble_eq_true rfl) h (fun r3 M2 h => ?_)
  refine x_istore dX12_lawTells_5 (Nat.le_of_ble_eq_true rfl) [(0, .ref l0), (1, .int l1), (2, .int l2), (3, .int l3), (4, .int l4), (5, .int r3)] rfl 7 rfl ?_
  refine x_aload_n dX12_lawTells_7 rfl 8 rfl ?_
  refine x_iload dX12_lawTells_8 rfl 10 rfl ?_
  refine x_iconst dX12_lawTells_10 kc_m1 11 rfl ?_
  refine x_icmp_ne dX12_lawTells_11 18 14 rfl rfl (fun hc => ?_) (fun hc => ?_)
  · have h := h.1 hc
    refine x_aload_n dX12_lawTells_18 rfl 19 rfl ?_
    refine x_iconst dX12_lawTells_19 kc_0 20 rfl ?_
    refine x_aload_n dX12_lawTells_20 rfl 21 rfl ?_
    refine gf12_19 dX12_lawTells_21 24 rfl hk_l0 kw5_178 ?_
    refine x_iload dX12_lawTells_24 rfl 26 rfl ?_
    obtain ⟨hin, h⟩ := h
    refine x_iaload dX12_lawTells_26 (ly12_19 hk_l0) hin 27 rfl ?_
    refine x_aload_n dX12_lawTells_27 rfl 28 rfl ?_
    refine gf12_20 dX12_lawTells_28 31 rfl hk_l0 kw5_179 ?_
    refine x_iload dX12_lawTells_31 rfl 33 rfl ?_
    obtain ⟨hin, h⟩ := h
    refine x_iaload dX12_lawTells_33 (ly12_20 hk_l0) hin 34 rfl ?_
    refine kX12_runs dX12_lawTells_34 37 rfl hk_l0 kw7_118 (Nat.le_of_ble_eq_true rfl) (Nat.le_of_ble_eq_true rfl) h (fun r5 M4 h => ?_)
    refine x_weak [(3, .int l3), (4, .int l4)] [3, 4] rfl ?_
    exact nX12_lawTells_37 hk_l0 h
  · have h := h.2 hc
    refine x_iload_n dX12_lawTells_14 rfl 15 rfl ?_
    refine x_goto dX12_lawTells_15 37 rfl ?_
    refine x_weak [(3, .int l3), (4, .int l4)] [3, 4] rfl ?_
    exact nX12_lawTells_37 hk_l0 h
theorem cX12_lawTells_ {Q : Int32 → Mem → Prop} {l0 : Nat} {l1 : Int32} {l2 : Int32} {l3 : Int32} {l4 : Int32} {M : Mem} (hk_l0 : SHk l0 = 12) (h : FX12_lawTells Q l0 l1 l2 l3 l4 M) : xM yX12_lawTells cX12_lawTells 6 (some .int) 4 [.ref l0, .int l1, .int l2, .int l3, .int l4] M (xQi Q) := xM_of (by decide +kernel) (Nat.le_of_ble_eq_true rfl) (eX12_lawTells hk_l0 h)
theorem kX12_lawTells {own : String} {cc : ByteArray} {nL : Nat} {rt : Option FieldType} {d pc ix : Nat} {L : List (Nat × Value)} {st : List Value} {M : Mem} {Rt : xGt → Array Value → State → Outcome → State → Prop} {Q : Int32 → Mem → Prop} {l0 : Nat} {l1 : Int32} {l2 : Int32} {l3 : Int32} {l4 : Int32} (hd : decode cc pc = .ok (.invokevirtual ix, 3)) (q : Nat) (hq : pc + 3 = q) (hk_l0 : SHk l0 = 12) (w1 : Cond.methodLink own ix yX12_lawTells ∈ xTs) (hr : 4 < d) (hst : (st.map fun v => v.category).sum ≤ 8) (h : FX12_lawTells Q l0 l1 l2 l3 l4 M) (k : ∀ (r : Int32) (N : Mem), Q r N → xX own cc nL rt d q L (.int r :: st) N Rt) : xX own cc nL rt d pc L (.int l4 :: .int l3 :: .int l2 :: .int l1 :: .ref l0 :: st) M Rt :=
  x_callV_i (n := 4) (As := [.int l1, .int l2, .int l3, .int l4]) hd q hq hk_l0 (by decide) rfl rfl w1 kw7_112 ks6_12 kw1_14 kw7_113 (by decide +kernel) rfl hr (by decide) hst _ rfl (cX12_lawTells_ hk_l0 h) k
def FX12_eatsOf (Q : Int32 → Mem → Prop) (l0 : Nat) (l1 : Int32) (M : Mem) : Prop :=
  FX12_asks (fun (M1 : Mem) => vp_in (35 + l1) 107 ∧ FX12_lawTells (fun (r3 : Int32) (M2 : Mem) => Q r3 M2) l0 0 (1 + ((M1 (l0 + 1) (ix (35 + l1))) / 20)) 0 99 M1) l0 l1 M
theorem eX12_eatsOf {Q : Int32 → Mem → Prop} {l0 : Nat} {l1 : Int32} {M : Mem} (hk_l0 : SHk l0 = 12) (h : FX12_eatsOf Q l0 l1 M) : xX RX12 cX12_eatsOf 2 (some .int) 5 0 [(0, .ref l0), (1, .int l1)] [] M (xQi Q) := by
  unfold FX12_eatsOf at h
  refine x_aload_n dX12_eatsOf_0 rfl 1 rfl ?_
  refine x_iload_n dX12_eatsOf_1 rfl 2 rfl ?_
  refine kX12_asks dX12_eatsOf_2 5 rfl hk_l0 kw7_98 (Nat.le_of_ble_eq_true rfl) (Nat.le_of_ble_eq_true rfl) h (fun M1 h => ?_)
  refine x_aload_n dX12_eatsOf_5 rfl 6 rfl ?_
  refine x_iconst dX12_eatsOf_6 kc_0 7 rfl ?_
  refine x_iconst dX12_eatsOf_7 kc_1 8 rfl ?_
  refine x_aload_n dX12_eatsOf_8 rfl 9 rfl ?_
  refine gf12_1 dX12_eatsOf_9 12 rfl hk_l0 kw5_160 ?_
  refine x_bipush dX12_eatsOf_12 kb_35 14 rfl ?_
  refine x_iload_n dX12_eatsOf_14 rfl 15 rfl ?_
  refine x_iadd dX12_eatsOf_15 16 rfl ?_
  obtain ⟨hin, h⟩ := h
  refine x_iaload dX12_eatsOf_16 (ly12_1 hk_l0) hin 17 rfl ?_
  refine x_bipush dX12_eatsOf_17 kb_20 19 rfl ?_
  refine x_idiv dX12_eatsOf_19 (by decide) 20 rfl ?_
  refine x_iadd dX12_eatsOf_20 21 rfl ?_
  refine x_iconst dX12_eatsOf_21 kc_0 22 rfl ?_
  refine x_bipush dX12_eatsOf_22 kb_99 24 rfl ?_
  refine kX12_lawTells dX12_eatsOf_24 27 rfl hk_l0 kw7_110 (Nat.le_of_ble_eq_true rfl) (Nat.le_of_ble_eq_true rfl) h (fun r3 M2 h => ?_)
  exact x_iret dX12_eatsOf_27 h
theorem cX12_eatsOf_ {Q : Int32 → Mem → Prop} {l0 : Nat} {l1 : Int32} {M : Mem} (hk_l0 : SHk l0 = 12) (h : FX12_eatsOf Q l0 l1 M) : xM yX12_eatsOf cX12_eatsOf 2 (some .int) 5 [.ref l0, .int l1] M (xQi Q) := xM_of (by decide +kernel) (Nat.le_of_ble_eq_true rfl) (eX12_eatsOf hk_l0 h)
theorem kX12_eatsOf {own : String} {cc : ByteArray} {nL : Nat} {rt : Option FieldType} {d pc ix : Nat} {L : List (Nat × Value)} {st : List Value} {M : Mem} {Rt : xGt → Array Value → State → Outcome → State → Prop} {Q : Int32 → Mem → Prop} {l0 : Nat} {l1 : Int32} (hd : decode cc pc = .ok (.invokevirtual ix, 3)) (q : Nat) (hq : pc + 3 = q) (hk_l0 : SHk l0 = 12) (w1 : Cond.methodLink own ix yX12_eatsOf ∈ xTs) (hr : 5 < d) (hst : (st.map fun v => v.category).sum ≤ 8) (h : FX12_eatsOf Q l0 l1 M) (k : ∀ (r : Int32) (N : Mem), Q r N → xX own cc nL rt d q L (.int r :: st) N Rt) : xX own cc nL rt d pc L (.int l1 :: .ref l0 :: st) M Rt :=
  x_callV_i (n := 1) (As := [.int l1]) hd q hq hk_l0 (by decide) rfl rfl w1 kw7_96 ks6_8 kw1_14 kw7_97 (by decide +kernel) rfl hr (by decide) hst _ rfl (cX12_eatsOf_ hk_l0 h) k
def FX12_diesOf (Q : Int32 → Mem → Prop) (l0 : Nat) (l1 : Int32) (M : Mem) : Prop :=
  FX12_asks (fun (M1 : Mem) => vp_in (7 + l1) 107 ∧ FX12_greater (fun (r2 : Int32) => vp_in (35 + l1) 107 ∧ FX12_greater (fun (r3 : Int32) => FX12_lawTells (fun (r5 : Int32) (M4 : Mem) => Q r5 M4) l0 1 ((5 * r2) + (20 * r3)) 0 1000 M1) l0 0 ((M1 (l0 + 1) (ix (35 + l1))) - 80) M1) l0 0 ((M1 (l0 + 1) (ix (7 + l1))) - 70) M1) l0 l1 M
theorem eX12_diesOf {Q : Int32 → Mem → Prop} {l0 : Nat} {l1 : Int32} {M : Mem} (hk_l0 : SHk l0 = 12) (h : FX12_diesOf Q l0 l1 M) : xX RX12 cX12_diesOf 2 (some .int) 5 0 [(0, .ref l0), (1, .int l1)] [] M (xQi Q) := by
  unfold FX12_diesOf at h
  refine x_aload_n dX12_diesOf_0 rfl 1 rfl ?_
  refine x_iload_n dX12_diesOf_1 rfl 2 rfl ?_
  refine kX12_asks dX12_diesOf_2 5 rfl hk_l0 kw7_98 (Nat.le_of_ble_eq_true rfl) (Nat.le_of_ble_eq_true rfl) h (fun M1 h => ?_)
  refine x_aload_n dX12_diesOf_5 rfl 6 rfl ?_
  refine x_iconst dX12_diesOf_6 kc_1 7 rfl ?_
  refine x_iconst dX12_diesOf_7 kc_5 8 rfl ?_
  refine x_aload_n dX12_diesOf_8 rfl 9 rfl ?_
  refine x_iconst dX12_diesOf_9 kc_0 10 rfl ?_
  refine x_aload_n dX12_diesOf_10 rfl 11 rfl ?_
  refine gf12_1 dX12_diesOf_11 14 rfl hk_l0 kw5_160 ?_
  refine x_bipush dX12_diesOf_14 kb_7 16 rfl ?_
  refine x_iload_n dX12_diesOf_16 rfl 17 rfl ?_
  refine x_iadd dX12_diesOf_17 18 rfl ?_
  obtain ⟨hin, h⟩ := h
  refine x_iaload dX12_diesOf_18 (ly12_1 hk_l0) hin 19 rfl ?_
  refine x_bipush dX12_diesOf_19 kb_70 21 rfl ?_
  refine x_isub dX12_diesOf_21 22 rfl ?_
  refine kX12_greater dX12_diesOf_22 25 rfl hk_l0 kw7_130 (Nat.le_of_ble_eq_true rfl) (Nat.le_of_ble_eq_true rfl) h (fun r2 h => ?_)
  refine x_imul dX12_diesOf_25 26 rfl ?_
  refine x_bipush dX12_diesOf_26 kb_20 28 rfl ?_
  refine x_aload_n dX12_diesOf_28 rfl 29 rfl ?_
  refine x_iconst dX12_diesOf_29 kc_0 30 rfl ?_
  refine x_aload_n dX12_diesOf_30 rfl 31 rfl ?_
  refine gf12_1 dX12_diesOf_31 34 rfl hk_l0 kw5_160 ?_
  refine x_bipush dX12_diesOf_34 kb_35 36 rfl ?_
  refine x_iload_n dX12_diesOf_36 rfl 37 rfl ?_
  refine x_iadd dX12_diesOf_37 38 rfl ?_
  obtain ⟨hin, h⟩ := h
  refine x_iaload dX12_diesOf_38 (ly12_1 hk_l0) hin 39 rfl ?_
  refine x_bipush dX12_diesOf_39 kb_80 41 rfl ?_
  refine x_isub dX12_diesOf_41 42 rfl ?_
  refine kX12_greater dX12_diesOf_42 45 rfl hk_l0 kw7_130 (Nat.le_of_ble_eq_true rfl) (Nat.le_of_ble_eq_true rfl) h (fun r3 h => ?_)
  refine x_imul dX12_diesOf_45 46 rfl ?_
  refine x_iadd dX12_diesOf_46 47 rfl ?_
  refine x_iconst dX12_diesOf_47 kc_0 48 rfl ?_
  refine x_sipush dX12_diesOf_48 kh_1000 51 rfl ?_
  refine kX12_lawTells dX12_diesOf_51 54 rfl hk_l0 kw7_110 (Nat.le_of_ble_eq_true rfl) (Nat.le_of_ble_eq_true rfl) h (fun r5 M4 h => ?_)
  exact x_iret dX12_diesOf_54 h
theorem cX12_diesOf_ {Q : Int32 → Mem → Prop} {l0 : Nat} {l1 : Int32} {M : Mem} (hk_l0 : SHk l0 = 12) (h : FX12_diesOf Q l0 l1 M) : xM yX12_diesOf cX12_diesOf 2 (some .int) 5 [.ref l0, .int l1] M (xQi Q) := xM_of (by decide +kernel) (Nat.le_of_ble_eq_true rfl) (eX12_diesOf hk_l0 h)
theorem kX12_diesOf {own : String} {cc : ByteArray} {nL : Nat} {rt : Option FieldType} {d pc ix : Nat} {L : List (Nat × Value)} {st : List Value} {M : Mem} {Rt : xGt → Array Value → State → Outcome → State → Prop} {Q : Int32 → Mem → Prop} {l0 : Nat} {l1 : Int32} (hd : decode cc pc = .ok (.invokevirtual ix, 3)) (q : Nat) (hq : pc + 3 = q) (hk_l0 : SHk l0 = 12) (w1 : Cond.methodLink own ix yX12_diesOf ∈ xTs) (hr : 5 < d) (hst : (st.map fun v => v.category).sum ≤ 8) (h : FX12_diesOf Q l0 l1 M) (k : ∀ (r : Int32) (N : Mem), Q r N → xX own cc nL rt d q L (.int r :: st) N Rt) : xX own cc nL rt d pc L (.int l1 :: .ref l0 :: st) M Rt :=
  x_callV_i (n := 1) (As := [.int l1]) hd q hq hk_l0 (by decide) rfl rfl w1 kw7_156 ks7_7 kw1_14 kw7_157 (by decide +kernel) rfl hr (by decide) hst _ rfl (cX12_diesOf_ hk_l0 h) k
def FX12_leansOf (Q : Int32 → Mem → Prop) (l0 : Nat) (l1 : Int32) (M : Mem) : Prop :=
  FX12_asks (fun (M1 : Mem) => FX12_partOf (fun (r2 : Int32) => FX12_lawTells (fun (r4 : Int32) (M3 : Mem) => Q r4 M3) l0 2 r2 (-99) 99 M1) l0 ((M1 (l0 + 19) 7) - (M1 (l0 + 19) 2)) 4 M1) l0 l1 M
theorem eX12_leansOf {Q : Int32 → Mem → Prop} {l0 : Nat} {l1 : Int32} {M : Mem} (hk_l0 : SHk l0 = 12) (h : FX12_leansOf Q l0 l1 M) : xX RX12 cX12_leansOf 2 (some .int) 5 0 [(0, .ref l0), (1, .int l1)] [] M (xQi Q) := by
  unfold FX12_leansOf at h
  refine x_aload_n dX12_leansOf_0 rfl 1 rfl ?_
  refine x_iload_n dX12_leansOf_1 rfl 2 rfl ?_
  refine kX12_asks dX12_leansOf_2 5 rfl hk_l0 kw7_98 (Nat.le_of_ble_eq_true rfl) (Nat.le_of_ble_eq_true rfl) h (fun M1 h => ?_)
  refine x_aload_n dX12_leansOf_5 rfl 6 rfl ?_
  refine x_iconst dX12_leansOf_6 kc_2 7 rfl ?_
  refine x_aload_n dX12_leansOf_7 rfl 8 rfl ?_
  refine x_aload_n dX12_leansOf_8 rfl 9 rfl ?_
  refine gf12_39 dX12_leansOf_9 12 rfl hk_l0 kw5_198 ?_
  refine x_bipush dX12_leansOf_12 kb_7 14 rfl ?_
  refine x_iaload dX12_leansOf_14 (ly12_39 hk_l0) (by unfold vp_in; decide) 15 rfl ?_
  refine x_aload_n dX12_leansOf_15 rfl 16 rfl ?_
  refine gf12_39 dX12_leansOf_16 19 rfl hk_l0 kw5_198 ?_
  refine x_iconst dX12_leansOf_19 kc_2 20 rfl ?_
  refine x_iaload dX12_leansOf_20 (ly12_39 hk_l0) (by unfold vp_in; decide) 21 rfl ?_
  refine x_isub dX12_leansOf_21 22 rfl ?_
  refine x_iconst dX12_leansOf_22 kc_4 23 rfl ?_
  refine kX12_partOf dX12_leansOf_23 26 rfl hk_l0 kw7_146 (Nat.le_of_ble_eq_true rfl) (Nat.le_of_ble_eq_true rfl) h (fun r2 h => ?_)
  refine x_bipush dX12_leansOf_26 kb_m99 28 rfl ?_
  refine x_bipush dX12_leansOf_28 kb_99 30 rfl ?_
  refine kX12_lawTells dX12_leansOf_30 33 rfl hk_l0 kw7_110 (Nat.le_of_ble_eq_true rfl) (Nat.le_of_ble_eq_true rfl) h (fun r4 M3 h => ?_)
  exact x_iret dX12_leansOf_33 h
theorem cX12_leansOf_ {Q : Int32 → Mem → Prop} {l0 : Nat} {l1 : Int32} {M : Mem} (hk_l0 : SHk l0 = 12) (h : FX12_leansOf Q l0 l1 M) : xM yX12_leansOf cX12_leansOf 2 (some .int) 5 [.ref l0, .int l1] M (xQi Q) := xM_of (by decide +kernel) (Nat.le_of_ble_eq_true rfl) (eX12_leansOf hk_l0 h)
theorem kX12_leansOf {own : String} {cc : ByteArray} {nL : Nat} {rt : Option FieldType} {d pc ix : Nat} {L : List (Nat × Value)} {st : List Value} {M : Mem} {Rt : xGt → Array Value → State → Outcome → State → Prop} {Q : Int32 → Mem → Prop} {l0 : Nat} {l1 : Int32} (hd : decode cc pc = .ok (.invokevirtual ix, 3)) (q : Nat) (hq : pc + 3 = q) (hk_l0 : SHk l0 = 12) (w1 : Cond.methodLink own ix yX12_leansOf ∈ xTs) (hr : 5 < d) (hst : (st.map fun v => v.category).sum ≤ 8) (h : FX12_leansOf Q l0 l1 M) (k : ∀ (r : Int32) (N : Mem), Q r N → xX own cc nL rt d q L (.int r :: st) N Rt) : xX own cc nL rt d pc L (.int l1 :: .ref l0 :: st) M Rt :=
  x_callV_i (n := 1) (As := [.int l1]) hd q hq hk_l0 (by decide) rfl rfl w1 kw7_144 ks7_4 kw1_14 kw7_145 (by decide +kernel) rfl hr (by decide) hst _ rfl (cX12_leansOf_ hk_l0 h) k
def FX12_isDown (Q : Mem → Prop) (l0 : Nat) (l1 : Int32) (M : Mem) : Prop :=
  FX12_pillarOf (fun (r1 : Int32) => vp_in (73 + r1) 107 ∧ ∀ M2 : Mem, M2 = xu M (l0 + 1) (ix (73 + r1)) 0 → FX12_comesBehind (fun (M3 : Mem) => FX12_notes (fun (M4 : Mem) => FX12_allClimb (fun (M5 : Mem) => Q M5) l0 M4) l0 3 l1 r1 M3) l0 l1 M2) l0 l1 M
theorem eX12_isDown {Q : Mem → Prop} {l0 : Nat} {l1 : Int32} {M : Mem} (hk_l0 : SHk l0 = 12) (h : FX12_isDown Q l0 l1 M) : xX RX12 cX12_isDown 3 none 4 0 [(0, .ref l0), (1, .int l1)] [] M (xQv Q) := by
  unfold FX12_isDown at h
  refine x_aload_n dX12_isDown_0 rfl 1 rfl ?_
  refine x_iload_n dX12_isDown_1 rfl 2 rfl ?_
  refine kX12_pillarOf dX12_isDown_2 5 rfl hk_l0 kw7_46 (Nat.le_of_ble_eq_true rfl) (Nat.le_of_ble_eq_true rfl) h (fun r1 h => ?_)
  refine x_istore_n dX12_isDown_5 (Nat.le_of_ble_eq_true rfl) [(0, .ref l0), (1, .int l1), (2, .int r1)] rfl 6 rfl ?_
  refine x_aload_n dX12_isDown_6 rfl 7 rfl ?_
  refine gf12_1 dX12_isDown_7 10 rfl hk_l0 kw5_160 ?_
  refine x_bipush dX12_isDown_10 kb_73 12 rfl ?_
  refine x_iload_n dX12_isDown_12 rfl 13 rfl ?_
  refine x_iadd dX12_isDown_13 14 rfl ?_
  refine x_iconst dX12_isDown_14 kc_0 15 rfl ?_
  obtain ⟨hin, h⟩ := h
  refine x_iastore dX12_isDown_15 (ly12_1 hk_l0) hin 16 rfl (x_mem (fun M2 hM2 => ?_))
  have h := h M2 hM2
  refine x_aload_n dX12_isDown_16 rfl 17 rfl ?_
  refine x_iload_n dX12_isDown_17 rfl 18 rfl ?_
  refine kX12_comesBehind dX12_isDown_18 21 rfl hk_l0 kw6_110 (Nat.le_of_ble_eq_true rfl) (Nat.le_of_ble_eq_true rfl) h (fun M3 h => ?_)
  refine x_aload_n dX12_isDown_21 rfl 22 rfl ?_
  refine x_iconst dX12_isDown_22 kc_3 23 rfl ?_
  refine x_iload_n dX12_isDown_23 rfl 24 rfl ?_
  refine x_iload_n dX12_isDown_24 rfl 25 rfl ?_
  refine kX12_notes dX12_isDown_25 28 rfl hk_l0 kw6_102 (Nat.le_of_ble_eq_true rfl) (Nat.le_of_ble_eq_true rfl) h (fun M4 h => ?_)
  refine x_aload_n dX12_isDown_28 rfl 29 rfl ?_
  refine kX12_allClimb dX12_isDown_29 32 rfl hk_l0 kw6_86 (Nat.le_of_ble_eq_true rfl) (Nat.le_of_ble_eq_true rfl) h (fun M5 h => ?_)
  exact x_vret dX12_isDown_32 h
theorem cX12_isDown_ {Q : Mem → Prop} {l0 : Nat} {l1 : Int32} {M : Mem} (hk_l0 : SHk l0 = 12) (h : FX12_isDown Q l0 l1 M) : xM yX12_isDown cX12_isDown 3 none 4 [.ref l0, .int l1] M (xQv Q) := xM_of (by decide +kernel) (Nat.le_of_ble_eq_true rfl) (eX12_isDown hk_l0 h)
theorem kX12_isDown {own : String} {cc : ByteArray} {nL : Nat} {rt : Option FieldType} {d pc ix : Nat} {L : List (Nat × Value)} {st : List Value} {M : Mem} {Rt : xGt → Array Value → State → Outcome → State → Prop} {Q : Mem → Prop} {l0 : Nat} {l1 : Int32} (hd : decode cc pc = .ok (.invokevirtual ix, 3)) (q : Nat) (hq : pc + 3 = q) (hk_l0 : SHk l0 = 12) (w1 : Cond.methodLink own ix yX12_isDown ∈ xTs) (hr : 4 < d) (hst : (st.map fun v => v.category).sum ≤ 8) (h : FX12_isDown Q l0 l1 M) (k : ∀ (N : Mem), Q N → xX own cc nL rt d q L st N Rt) : xX own cc nL rt d pc L (.int l1 :: .ref l0 :: st) M Rt :=
  x_callV_v (n := 1) (As := [.int l1]) hd q hq hk_l0 (by decide) rfl rfl w1 kw7_68 ks6_2 kw1_14 kw7_69 (by decide +kernel) rfl hr (by decide) hst _ rfl (cX12_isDown_ hk_l0 h) k
def FX12_canAct (Q : Bool → Prop) (l0 : Nat) (l1 : Int32) (l2 : Int32) (l3 : Int32) (M : Mem) : Prop :=
  ((¬ l1 = 0 → ((¬ l1 = 1 → ((¬ l1 = 2 → ((¬ l1 = 3 → Q false) ∧ (l1 = 3 → FX12_isPillar (fun (r1 : Bool) => ((r1 = false → Q false) ∧ (r1 = true → FX12_isIn (fun (r2 : Bool) => ((r2 = false → Q false) ∧ (r2 = true → Q true))) l0 l3 1 99 M))) l0 l2 M))) ∧ (l1 = 2 → FX12_isSaint (fun (r3 : Bool) => ((r3 = false → Q false) ∧ (r3 = true → FX12_pillarOf (fun (r4 : Int32) => ((r4 = (-1) → Q false) ∧ (¬ r4 = (-1) → Q true))) l0 l2 M))) l0 l2 M))) ∧ (l1 = 1 → FX12_isIn (fun (r5 : Bool) => ((r5 = false → Q false) ∧ (r5 = true → FX12_highest (fun (r6 : Int32) => ((r6 = (-1) → Q false) ∧ (¬ r6 = (-1) → Q true))) l0 M))) l0 l3 (-99) 99 M))) ∧ (l1 = 0 → FX12_isIn (fun (r7 : Bool) => Q r7) l0 l3 1 999 M))
theorem eX12_canAct {Q : Bool → Prop} {l0 : Nat} {l1 : Int32} {l2 : Int32} {l3 : Int32} {M : Mem} (hk_l0 : SHk l0 = 12) (h : FX12_canAct Q l0 l1 l2 l3 M) : xX RX12 cX12_canAct 4 (some .boolean) 3 0 [(0, .ref l0), (1, .int l1), (2, .int l2), (3, .int l3)] [] M (xQb (xP M Q)) := by
  unfold FX12_canAct at h
  refine x_iload_n dX12_canAct_0 rfl 1 rfl ?_
  refine x_if_ne dX12_canAct_1 14 4 rfl rfl (fun hc => ?_) (fun hc => ?_)
  · have h := h.1 hc
    refine x_iload_n dX12_canAct_14 rfl 15 rfl ?_
    refine x_iconst dX12_canAct_15 kc_1 16 rfl ?_
    refine x_icmp_ne dX12_canAct_16 45 19 rfl rfl (fun hc => ?_) (fun hc => ?_)
    · have h := h.1 hc
      refine x_iload_n dX12_canAct_45 rfl 46 rfl ?_
      refine x_iconst dX12_canAct_46 kc_2 47 rfl ?_
      refine x_icmp_ne dX12_canAct_47 73 50 rfl rfl (fun hc => ?_) (fun hc => ?_)
      · have h := h.1 hc
        refine x_iload_n dX12_canAct_73 rfl 74 rfl ?_
        refine x_iconst dX12_canAct_74 kc_3 75 rfl ?_
        refine x_icmp_ne dX12_canAct_75 101 78 rfl rfl (fun hc => ?_) (fun hc => ?_)
        · have h := h.1 hc
          refine x_iconst dX12_canAct_101 kc_0 102 rfl ?_
          exact x_zret (z := false) dX12_canAct_102 ⟨rfl, h⟩
        · have h := h.2 hc
          refine x_aload_n dX12_canAct_78 rfl 79 rfl ?_
          refine x_iload_n dX12_canAct_79 rfl 80 rfl ?_
          refine kX12_isPillar dX12_canAct_80 83 rfl hk_l0 kw7_50 (Nat.le_of_ble_eq_true rfl) (Nat.le_of_ble_eq_true rfl) h (fun r1 h => ?_)
          refine x_if_eq_b dX12_canAct_83 101 86 rfl rfl (fun hc => ?_) (fun hc => ?_)
          · have h := h.1 hc
            refine x_iconst dX12_canAct_101 kc_0 102 rfl ?_
            exact x_zret (z := false) dX12_canAct_102 ⟨rfl, h⟩
          · have h := h.2 hc
            refine x_aload_n dX12_canAct_86 rfl 87 rfl ?_
            refine x_iload_n dX12_canAct_87 rfl 88 rfl ?_
            refine x_iconst dX12_canAct_88 kc_1 89 rfl ?_
            refine x_bipush dX12_canAct_89 kb_99 91 rfl ?_
            refine kX12_isIn dX12_canAct_91 94 rfl hk_l0 kw6_82 (Nat.le_of_ble_eq_true rfl) (Nat.le_of_ble_eq_true rfl) h (fun r2 h => ?_)
            refine x_if_eq_b dX12_canAct_94 101 97 rfl rfl (fun hc => ?_) (fun hc => ?_)
            · have h := h.1 hc
              refine x_iconst dX12_canAct_101 kc_0 102 rfl ?_
              exact x_zret (z := false) dX12_canAct_102 ⟨rfl, h⟩
            · have h := h.2 hc
              refine x_iconst dX12_canAct_97 kc_1 98 rfl ?_
              refine x_goto dX12_canAct_98 102 rfl ?_
              exact x_zret (z := true) dX12_canAct_102 ⟨rfl, h⟩
      · have h := h.2 hc
        refine x_aload_n dX12_canAct_50 rfl 51 rfl ?_
        refine x_iload_n dX12_canAct_51 rfl 52 rfl ?_
        refine kX12_isSaint dX12_canAct_52 55 rfl hk_l0 kw6_122 (Nat.le_of_ble_eq_true rfl) (Nat.le_of_ble_eq_true rfl) h (fun r3 h => ?_)
        refine x_if_eq_b dX12_canAct_55 71 58 rfl rfl (fun hc => ?_) (fun hc => ?_)
        · have h := h.1 hc
          refine x_iconst dX12_canAct_71 kc_0 72 rfl ?_
          exact x_zret (z := false) dX12_canAct_72 ⟨rfl, h⟩
        · have h := h.2 hc
          refine x_aload_n dX12_canAct_58 rfl 59 rfl ?_
          refine x_iload_n dX12_canAct_59 rfl 60 rfl ?_
          refine kX12_pillarOf dX12_canAct_60 63 rfl hk_l0 kw7_46 (Nat.le_of_ble_eq_true rfl) (Nat.le_of_ble_eq_true rfl) h (fun r4 h => ?_)
          refine x_iconst dX12_canAct_63 kc_m1 64 rfl ?_
          refine x_icmp_eq dX12_canAct_64 71 67 rfl rfl (fun hc => ?_) (fun hc => ?_)
          · have h := h.1 hc
            refine x_iconst dX12_canAct_71 kc_0 72 rfl ?_
            exact x_zret (z := false) dX12_canAct_72 ⟨rfl, h⟩
          · have h := h.2 hc
            refine x_iconst dX12_canAct_67 kc_1 68 rfl ?_
            refine x_goto dX12_canAct_68 72 rfl ?_
            exact x_zret (z := true) dX12_canAct_72 ⟨rfl, h⟩
    · have h := h.2 hc
      refine x_aload_n dX12_canAct_19 rfl 20 rfl ?_
      refine x_iload_n dX12_canAct_20 rfl 21 rfl ?_
      refine x_bipush dX12_canAct_21 kb_m99 23 rfl ?_
      refine x_bipush dX12_canAct_23 kb_99 25 rfl ?_
      refine kX12_isIn dX12_canAct_25 28 rfl hk_l0 kw6_82 (Nat.le_of_ble_eq_true rfl) (Nat.le_of_ble_eq_true rfl) h (fun r5 h => ?_)
      refine x_if_eq_b dX12_canAct_28 43 31 rfl rfl (fun hc => ?_) (fun hc => ?_)
      · have h := h.1 hc
        refine x_iconst dX12_canAct_43 kc_0 44 rfl ?_
        exact x_zret (z := false) dX12_canAct_44 ⟨rfl, h⟩
      · have h := h.2 hc
        refine x_aload_n dX12_canAct_31 rfl 32 rfl ?_
        refine kX12_highest dX12_canAct_32 35 rfl hk_l0 kw7_42 (Nat.le_of_ble_eq_true rfl) (Nat.le_of_ble_eq_true rfl) h (fun r6 h => ?_)
        refine x_iconst dX12_canAct_35 kc_m1 36 rfl ?_
        refine x_icmp_eq dX12_canAct_36 43 39 rfl rfl (fun hc => ?_) (fun hc => ?_)
        · have h := h.1 hc
          refine x_iconst dX12_canAct_43 kc_0 44 rfl ?_
          exact x_zret (z := false) dX12_canAct_44 ⟨rfl, h⟩
        · have h := h.2 hc
          refine x_iconst dX12_canAct_39 kc_1 40 rfl ?_
          refine x_goto dX12_canAct_40 44 rfl ?_
          exact x_zret (z := true) dX12_canAct_44 ⟨rfl, h⟩
  · have h := h.2 hc
    refine x_aload_n dX12_canAct_4 rfl 5 rfl ?_
    refine x_iload_n dX12_canAct_5 rfl 6 rfl ?_
    refine x_iconst dX12_canAct_6 kc_1 7 rfl ?_
    refine x_sipush dX12_canAct_7 kh_999 10 rfl ?_
    refine kX12_isIn dX12_canAct_10 13 rfl hk_l0 kw6_82 (Nat.le_of_ble_eq_true rfl) (Nat.le_of_ble_eq_true rfl) h (fun r7 h => ?_)
    exact x_zret dX12_canAct_13 ⟨rfl, h⟩
theorem cX12_canAct_ {Q : Bool → Prop} {l0 : Nat} {l1 : Int32} {l2 : Int32} {l3 : Int32} {M : Mem} (hk_l0 : SHk l0 = 12) (h : FX12_canAct Q l0 l1 l2 l3 M) : xM yX12_canAct cX12_canAct 4 (some .boolean) 3 [.ref l0, .int l1, .int l2, .int l3] M (xQb (xP M Q)) := xM_of (by decide +kernel) (Nat.le_of_ble_eq_true rfl) (eX12_canAct hk_l0 h)
theorem kX12_canAct {own : String} {cc : ByteArray} {nL : Nat} {rt : Option FieldType} {d pc ix : Nat} {L : List (Nat × Value)} {st : List Value} {M : Mem} {Rt : xGt → Array Value → State → Outcome → State → Prop} {Q : Bool → Prop} {l0 : Nat} {l1 : Int32} {l2 : Int32} {l3 : Int32} (hd : decode cc pc = .ok (.invokevirtual ix, 3)) (q : Nat) (hq : pc + 3 = q) (hk_l0 : SHk l0 = 12) (w1 : Cond.methodLink own ix yX12_canAct ∈ xTs) (hr : 3 < d) (hst : (st.map fun v => v.category).sum ≤ 8) (h : FX12_canAct Q l0 l1 l2 l3 M) (k : ∀ (r : Bool), Q r → xX own cc nL rt d q L (.int (bI r) :: st) M Rt) : xX own cc nL rt d pc L (.int l3 :: .int l2 :: .int l1 :: .ref l0 :: st) M Rt :=
  x_callV_b (n := 3) (As := [.int l1, .int l2, .int l3]) hd q hq hk_l0 (by decide) rfl rfl w1 kw7_40 ks5_11 kw1_14 kw7_41 (by decide +kernel) rfl hr (by decide) hst _ rfl (cX12_canAct_ hk_l0 h) (fun r N hN => by obtain ⟨rfl, hN⟩ := hN; exact k r hN)
def NX12_acts_56 (Q : Mem → Prop) (l0 : Nat) (l1 : Int32) (l2 : Int32) (l3 : Int32) (M : Mem) : Prop :=
  ((¬ l1 = 3 → Q M) ∧ (l1 = 3 → vp_in (63 + l2) 107 ∧ ∀ M1 : Mem, M1 = xu M (l0 + 1) (ix (63 + l2)) l3 → Q M1))
theorem nX12_acts_56 {Q : Mem → Prop} {l0 : Nat} {l1 : Int32} {l2 : Int32} {l3 : Int32} {M : Mem} (hk_l0 : SHk l0 = 12) (h : NX12_acts_56 Q l0 l1 l2 l3 M) : xX RX12 cX12_acts 4 none 5 56 [(0, .ref l0), (1, .int l1), (2, .int l2), (3, .int l3)] [] M (xQv Q) := by
  unfold NX12_acts_56 at h
  refine x_iload_n dX12_acts_56 rfl 57 rfl ?_
  refine x_iconst dX12_acts_57 kc_3 58 rfl ?_
  refine x_icmp_ne dX12_acts_58 71 61 rfl rfl (fun hc => ?_) (fun hc => ?_)
  · have h := h.1 hc
    exact x_vret dX12_acts_71 h
  · have h := h.2 hc
    refine x_aload_n dX12_acts_61 rfl 62 rfl ?_
    refine gf12_1 dX12_acts_62 65 rfl hk_l0 kw5_160 ?_
    refine x_bipush dX12_acts_65 kb_63 67 rfl ?_
    refine x_iload_n dX12_acts_67 rfl 68 rfl ?_
    refine x_iadd dX12_acts_68 69 rfl ?_
    refine x_iload_n dX12_acts_69 rfl 70 rfl ?_
    obtain ⟨hin, h⟩ := h
    refine x_iastore dX12_acts_70 (ly12_1 hk_l0) hin 71 rfl (x_mem (fun M1 hM1 => ?_))
    have h := h M1 hM1
    exact x_vret dX12_acts_71 h
def NX12_acts_46 (Q : Mem → Prop) (l0 : Nat) (l1 : Int32) (l2 : Int32) (l3 : Int32) (M : Mem) : Prop :=
  ((¬ l1 = 2 → NX12_acts_56 Q l0 l1 l2 l3 M) ∧ (l1 = 2 → FX12_isDown (fun (M2 : Mem) => NX12_acts_56 Q l0 l1 l2 l3 M2) l0 l2 M))
theorem nX12_acts_46 {Q : Mem → Prop} {l0 : Nat} {l1 : Int32} {l2 : Int32} {l3 : Int32} {M : Mem} (hk_l0 : SHk l0 = 12) (h : NX12_acts_46 Q l0 l1 l2 l3 M) : xX RX12 cX12_acts 4 none 5 46 [(0, .ref l0), (1, .int l1), (2, .int l2), (3, .int l3)] [] M (xQv Q) := by
  unfold NX12_acts_46 at h
  refine x_iload_n dX12_acts_46 rfl 47 rfl ?_
  refine x_iconst dX12_acts_47 kc_2 48 rfl ?_
  refine x_icmp_ne dX12_acts_48 56 51 rfl rfl (fun hc => ?_) (fun hc => ?_)
  · have h := h.1 hc
    exact nX12_acts_56 hk_l0 h
  · have h := h.2 hc
    refine x_aload_n dX12_acts_51 rfl 52 rfl ?_
    refine x_iload_n dX12_acts_52 rfl 53 rfl ?_
    refine kX12_isDown dX12_acts_53 56 rfl hk_l0 kw7_66 (Nat.le_of_ble_eq_true rfl) (Nat.le_of_ble_eq_true rfl) h (fun M2 h => ?_)
    exact nX12_acts_56 hk_l0 h
def NX12_acts_25 (Q : Mem → Prop) (l0 : Nat) (l1 : Int32) (l2 : Int32) (l3 : Int32) (M : Mem) : Prop :=
  ((¬ l1 = 1 → NX12_acts_46 Q l0 l1 l2 l3 M) ∧ (l1 = 1 → FX12_highest (fun (r3 : Int32) => vp_in (83 + r3) 107 ∧ ∀ M4 : Mem, M4 = xu M (l0 + 1) (ix (83 + r3)) (l3 + 100) → NX12_acts_46 Q l0 l1 l2 l3 M4) l0 M))
theorem nX12_acts_25 {Q : Mem → Prop} {l0 : Nat} {l1 : Int32} {l2 : Int32} {l3 : Int32} {M : Mem} (hk_l0 : SHk l0 = 12) (h : NX12_acts_25 Q l0 l1 l2 l3 M) : xX RX12 cX12_acts 4 none 5 25 [(0, .ref l0), (1, .int l1), (2, .int l2), (3, .int l3)] [] M (xQv Q) := by
  unfold NX12_acts_25 at h
  refine x_iload_n dX12_acts_25 rfl 26 rfl ?_
  refine x_iconst dX12_acts_26 kc_1 27 rfl ?_
  refine x_icmp_ne dX12_acts_27 46 30 rfl rfl (fun hc => ?_) (fun hc => ?_)
  · have h := h.1 hc
    exact nX12_acts_46 hk_l0 h
  · have h := h.2 hc
    refine x_aload_n dX12_acts_30 rfl 31 rfl ?_
    refine gf12_1 dX12_acts_31 34 rfl hk_l0 kw5_160 ?_
    refine x_bipush dX12_acts_34 kb_83 36 rfl ?_
    refine x_aload_n dX12_acts_36 rfl 37 rfl ?_
    refine kX12_highest dX12_acts_37 40 rfl hk_l0 kw7_42 (Nat.le_of_ble_eq_true rfl) (Nat.le_of_ble_eq_true rfl) h (fun r3 h => ?_)
    refine x_iadd dX12_acts_40 41 rfl ?_
    refine x_iload_n dX12_acts_41 rfl 42 rfl ?_
    refine x_bipush dX12_acts_42 kb_100 44 rfl ?_
    refine x_iadd dX12_acts_44 45 rfl ?_
    obtain ⟨hin, h⟩ := h
    refine x_iastore dX12_acts_45 (ly12_1 hk_l0) hin 46 rfl (x_mem (fun M4 hM4 => ?_))
    have h := h M4 hM4
    exact nX12_acts_46 hk_l0 h
def FX12_acts (Q : Mem → Prop) (l0 : Nat) (l1 : Int32) (l2 : Int32) (l3 : Int32) (M : Mem) : Prop :=
  ((¬ l1 = 0 → NX12_acts_25 Q l0 l1 l2 l3 M) ∧ (l1 = 0 → FX12_lesser (fun (r5 : Int32) => ∀ M6 : Mem, M6 = xu M (l0 + 1) (3) r5 → NX12_acts_25 Q l0 l1 l2 l3 M6) l0 999 ((M (l0 + 1) 3) + l3) M))
theorem eX12_acts {Q : Mem → Prop} {l0 : Nat} {l1 : Int32} {l2 : Int32} {l3 : Int32} {M : Mem} (hk_l0 : SHk l0 = 12) (h : FX12_acts Q l0 l1 l2 l3 M) : xX RX12 cX12_acts 4 none 5 0 [(0, .ref l0), (1, .int l1), (2, .int l2), (3, .int l3)] [] M (xQv Q) := by
  unfold FX12_acts at h
  refine x_iload_n dX12_acts_0 rfl 1 rfl ?_
  refine x_if_ne dX12_acts_1 25 4 rfl rfl (fun hc => ?_) (fun hc => ?_)
  · have h := h.1 hc
    exact nX12_acts_25 hk_l0 h
  · have h := h.2 hc
    refine x_aload_n dX12_acts_4 rfl 5 rfl ?_
    refine gf12_1 dX12_acts_5 8 rfl hk_l0 kw5_160 ?_
    refine x_iconst dX12_acts_8 kc_3 9 rfl ?_
    refine x_aload_n dX12_acts_9 rfl 10 rfl ?_
    refine x_sipush dX12_acts_10 kh_999 13 rfl ?_
    refine x_aload_n dX12_acts_13 rfl 14 rfl ?_
    refine gf12_1 dX12_acts_14 17 rfl hk_l0 kw5_160 ?_
    refine x_iconst dX12_acts_17 kc_3 18 rfl ?_
    refine x_iaload dX12_acts_18 (ly12_1 hk_l0) (by unfold vp_in; decide) 19 rfl ?_
    refine x_iload_n dX12_acts_19 rfl 20 rfl ?_
    refine x_iadd dX12_acts_20 21 rfl ?_
    refine kX12_lesser dX12_acts_21 24 rfl hk_l0 kw7_62 (Nat.le_of_ble_eq_true rfl) (Nat.le_of_ble_eq_true rfl) h (fun r5 h => ?_)
    refine x_iastore dX12_acts_24 (ly12_1 hk_l0) (by unfold vp_in; decide) 25 rfl (x_mem (fun M6 hM6 => ?_))
    have h := h M6 hM6
    exact nX12_acts_25 hk_l0 h
theorem cX12_acts_ {Q : Mem → Prop} {l0 : Nat} {l1 : Int32} {l2 : Int32} {l3 : Int32} {M : Mem} (hk_l0 : SHk l0 = 12) (h : FX12_acts Q l0 l1 l2 l3 M) : xM yX12_acts cX12_acts 4 none 5 [.ref l0, .int l1, .int l2, .int l3] M (xQv Q) := xM_of (by decide +kernel) (Nat.le_of_ble_eq_true rfl) (eX12_acts hk_l0 h)
theorem kX12_acts {own : String} {cc : ByteArray} {nL : Nat} {rt : Option FieldType} {d pc ix : Nat} {L : List (Nat × Value)} {st : List Value} {M : Mem} {Rt : xGt → Array Value → State → Outcome → State → Prop} {Q : Mem → Prop} {l0 : Nat} {l1 : Int32} {l2 : Int32} {l3 : Int32} (hd : decode cc pc = .ok (.invokevirtual ix, 3)) (q : Nat) (hq : pc + 3 = q) (hk_l0 : SHk l0 = 12) (w1 : Cond.methodLink own ix yX12_acts ∈ xTs) (hr : 5 < d) (hst : (st.map fun v => v.category).sum ≤ 8) (h : FX12_acts Q l0 l1 l2 l3 M) (k : ∀ (N : Mem), Q N → xX own cc nL rt d q L st N Rt) : xX own cc nL rt d pc L (.int l3 :: .int l2 :: .int l1 :: .ref l0 :: st) M Rt :=
  x_callV_v (n := 3) (As := [.int l1, .int l2, .int l3]) hd q hq hk_l0 (by decide) rfl rfl w1 kw7_60 ks6_0 kw1_14 kw7_61 (by decide +kernel) rfl hr (by decide) hst _ rfl (cX12_acts_ hk_l0 h) k
def FX12_act (Q : Bool → Mem → Prop) (l0 : Nat) (l1 : Int32) (l2 : Int32) (l3 : Int32) (M : Mem) : Prop :=
  ∀ M1 : Mem, M1 = xu M l0 0 0 → FX12_canAct (fun (r2 : Bool) => ((r2 = true → FX12_keepsAhead (fun (M3 : Mem) => FX12_acts (fun (M4 : Mem) => Q true M4) l0 l1 l2 l3 M3) l0 M1) ∧ (r2 = false → Q false M1))) l0 l1 l2 l3 M1
theorem eX12_act {Q : Bool → Mem → Prop} {l0 : Nat} {l1 : Int32} {l2 : Int32} {l3 : Int32} {M : Mem} (hk_l0 : SHk l0 = 12) (h : FX12_act Q l0 l1 l2 l3 M) : xX RX12 cX12_act 4 (some .boolean) 6 0 [(0, .ref l0), (1, .int l1), (2, .int l2), (3, .int l3)] [] M (xQb Q) := by
  unfold FX12_act at h
  refine x_aload_n dX12_act_0 rfl 1 rfl ?_
  refine x_iconst dX12_act_1 kc_0 2 rfl ?_
  refine pf12_0 dX12_act_2 5 rfl hk_l0 kw5_159 (x_mem (fun M1 hM1 => ?_))
  have h := h M1 hM1
  refine x_aload_n dX12_act_5 rfl 6 rfl ?_
  refine x_iload_n dX12_act_6 rfl 7 rfl ?_
  refine x_iload_n dX12_act_7 rfl 8 rfl ?_
  refine x_iload_n dX12_act_8 rfl 9 rfl ?_
  refine kX12_canAct dX12_act_9 12 rfl hk_l0 kw7_38 (Nat.le_of_ble_eq_true rfl) (Nat.le_of_ble_eq_true rfl) h (fun r2 h => ?_)
  refine x_if_ne_b dX12_act_12 17 15 rfl rfl (fun hc => ?_) (fun hc => ?_)
  · have h := h.1 hc
    refine x_aload_n dX12_act_17 rfl 18 rfl ?_
    refine kX12_keepsAhead dX12_act_18 21 rfl hk_l0 kw7_54 (Nat.le_of_ble_eq_true rfl) (Nat.le_of_ble_eq_true rfl) h (fun M3 h => ?_)
    refine x_aload_n dX12_act_21 rfl 22 rfl ?_
    refine x_iload_n dX12_act_22 rfl 23 rfl ?_
    refine x_iload_n dX12_act_23 rfl 24 rfl ?_
    refine x_iload_n dX12_act_24 rfl 25 rfl ?_
    refine kX12_acts dX12_act_25 28 rfl hk_l0 kw7_58 (Nat.le_of_ble_eq_true rfl) (Nat.le_of_ble_eq_true rfl) h (fun M4 h => ?_)
    refine x_iconst dX12_act_28 kc_1 29 rfl ?_
    exact x_zret (z := true) dX12_act_29 h
  · have h := h.2 hc
    refine x_iconst dX12_act_15 kc_0 16 rfl ?_
    exact x_zret (z := false) dX12_act_16 h
theorem cX12_act_ {Q : Bool → Mem → Prop} {l0 : Nat} {l1 : Int32} {l2 : Int32} {l3 : Int32} {M : Mem} (hk_l0 : SHk l0 = 12) (h : FX12_act Q l0 l1 l2 l3 M) : xM yX12_act cX12_act 4 (some .boolean) 6 [.ref l0, .int l1, .int l2, .int l3] M (xQb Q) := xM_of (by decide +kernel) (Nat.le_of_ble_eq_true rfl) (eX12_act hk_l0 h)
theorem kX12_act {own : String} {cc : ByteArray} {nL : Nat} {rt : Option FieldType} {d pc ix : Nat} {L : List (Nat × Value)} {st : List Value} {M : Mem} {Rt : xGt → Array Value → State → Outcome → State → Prop} {Q : Bool → Mem → Prop} {l0 : Nat} {l1 : Int32} {l2 : Int32} {l3 : Int32} (hd : decode cc pc = .ok (.invokevirtual ix, 3)) (q : Nat) (hq : pc + 3 = q) (hk_l0 : SHk l0 = 12) (w1 : Cond.methodLink own ix yX12_act ∈ xTs) (hr : 6 < d) (hst : (st.map fun v => v.category).sum ≤ 8) (h : FX12_act Q l0 l1 l2 l3 M) (k : ∀ (r : Bool) (N : Mem), Q r N → xX own cc nL rt d q L (.int (bI r) :: st) N Rt) : xX own cc nL rt d pc L (.int l3 :: .int l2 :: .int l1 :: .ref l0 :: st) M Rt :=
  x_callV_b (n := 3) (As := [.int l1, .int l2, .int l3]) hd q hq hk_l0 (by decide) rfl rfl w1 kw7_35 kw7_36 kw1_14 kw7_37 (by decide +kernel) rfl hr (by decide) hst _ rfl (cX12_act_ hk_l0 h) k
def NX12_does_90 (Q : Mem → Prop) (l0 : Nat) (l2 : Int32) (l3 : Int32) (M : Mem) : Prop :=
  ((¬ l2 = 4 → Q M) ∧ (l2 = 4 → vp_in (49 + l3) 107 ∧ ((¬ (M (l0 + 1) (ix (49 + l3))) = 0 → Q M) ∧ ((M (l0 + 1) (ix (49 + l3))) = 0 → vp_in (35 + l3) 107 ∧ ∀ M1 : Mem, M1 = xu M (l0 + 1) (ix (35 + l3)) 99 → Q M1))))
theorem nX12_does_90 {Q : Mem → Prop} {l0 : Nat} {l2 : Int32} {l3 : Int32} {M : Mem} (hk_l0 : SHk l0 = 12) (h : NX12_does_90 Q l0 l2 l3 M) : xX RX12 cX12_does 4 none 6 90 [(0, .ref l0), (2, .int l2), (3, .int l3)] [] M (xQv Q) := by
  unfold NX12_does_90 at h
  refine x_iload_n dX12_does_90 rfl 91 rfl ?_
  refine x_iconst dX12_does_91 kc_4 92 rfl ?_
  refine x_icmp_ne dX12_does_92 118 95 rfl rfl (fun hc => ?_) (fun hc => ?_)
  · have h := h.1 hc
    exact x_vret dX12_does_118 h
  · have h := h.2 hc
    refine x_aload_n dX12_does_95 rfl 96 rfl ?_
    refine gf12_1 dX12_does_96 99 rfl hk_l0 kw5_160 ?_
    refine x_bipush dX12_does_99 kb_49 101 rfl ?_
    refine x_iload_n dX12_does_101 rfl 102 rfl ?_
    refine x_iadd dX12_does_102 103 rfl ?_
    obtain ⟨hin, h⟩ := h
    refine x_iaload dX12_does_103 (ly12_1 hk_l0) hin 104 rfl ?_
    refine x_if_ne dX12_does_104 118 107 rfl rfl (fun hc => ?_) (fun hc => ?_)
    · have h := h.1 hc
      exact x_vret dX12_does_118 h
    · have h := h.2 hc
      refine x_aload_n dX12_does_107 rfl 108 rfl ?_
      refine gf12_1 dX12_does_108 111 rfl hk_l0 kw5_160 ?_
      refine x_bipush dX12_does_111 kb_35 113 rfl ?_
      refine x_iload_n dX12_does_113 rfl 114 rfl ?_
      refine x_iadd dX12_does_114 115 rfl ?_
      refine x_bipush dX12_does_115 kb_99 117 rfl ?_
      obtain ⟨hin, h⟩ := h
      refine x_iastore dX12_does_117 (ly12_1 hk_l0) hin 118 rfl (x_mem (fun M1 hM1 => ?_))
      have h := h M1 hM1
      exact x_vret dX12_does_118 h
def NX12_does_68 (Q : Mem → Prop) (l0 : Nat) (l1 : Int32) (l2 : Int32) (l3 : Int32) (M : Mem) : Prop :=
  ((¬ l2 = 3 → NX12_does_90 Q l0 l2 l3 M) ∧ (l2 = 3 → vp_in (l1 + 3) 128 ∧ vp_in (63 + l3) 107 ∧ ∀ M2 : Mem, M2 = xu M (l0 + 1) (ix (63 + l3)) (M (l0 + 17) (ix (l1 + 3))) → NX12_does_90 Q l0 l2 l3 M2))
theorem nX12_does_68 {Q : Mem → Prop} {l0 : Nat} {l1 : Int32} {l2 : Int32} {l3 : Int32} {M : Mem} (hk_l0 : SHk l0 = 12) (h : NX12_does_68 Q l0 l1 l2 l3 M) : xX RX12 cX12_does 4 none 6 68 [(0, .ref l0), (1, .int l1), (2, .int l2), (3, .int l3)] [] M (xQv Q) := by
  unfold NX12_does_68 at h
  refine x_iload_n dX12_does_68 rfl 69 rfl ?_
  refine x_iconst dX12_does_69 kc_3 70 rfl ?_
  refine x_icmp_ne dX12_does_70 90 73 rfl rfl (fun hc => ?_) (fun hc => ?_)
  · have h := h.1 hc
    refine x_weak [(0, .ref l0), (2, .int l2), (3, .int l3)] [0, 2, 3] rfl ?_
    exact nX12_does_90 hk_l0 h
  · have h := h.2 hc
    refine x_aload_n dX12_does_73 rfl 74 rfl ?_
    refine gf12_1 dX12_does_74 77 rfl hk_l0 kw5_160 ?_
    refine x_bipush dX12_does_77 kb_63 79 rfl ?_
    refine x_iload_n dX12_does_79 rfl 80 rfl ?_
    refine x_iadd dX12_does_80 81 rfl ?_
    refine x_aload_n dX12_does_81 rfl 82 rfl ?_
    refine gf12_36 dX12_does_82 85 rfl hk_l0 kw5_195 ?_
    refine x_iload_n dX12_does_85 rfl 86 rfl ?_
    refine x_iconst dX12_does_86 kc_3 87 rfl ?_
    refine x_iadd dX12_does_87 88 rfl ?_
    obtain ⟨hin, h⟩ := h
    refine x_iaload dX12_does_88 (ly12_36 hk_l0) hin 89 rfl ?_
    obtain ⟨hin, h⟩ := h
    refine x_iastore dX12_does_89 (ly12_1 hk_l0) hin 90 rfl (x_mem (fun M2 hM2 => ?_))
    have h := h M2 hM2
    refine x_weak [(0, .ref l0), (2, .int l2), (3, .int l3)] [0, 2, 3] rfl ?_
    exact nX12_does_90 hk_l0 h
def NX12_does_49 (Q : Mem → Prop) (l0 : Nat) (l1 : Int32) (l2 : Int32) (l3 : Int32) (M : Mem) : Prop :=
  ((¬ l2 = 2 → NX12_does_68 Q l0 l1 l2 l3 M) ∧ (l2 = 2 → FX12_pillarOf (fun (r3 : Int32) => ((r3 = (-1) → NX12_does_68 Q l0 l1 l2 l3 M) ∧ (¬ r3 = (-1) → FX12_isDown (fun (M4 : Mem) => NX12_does_68 Q l0 l1 l2 l3 M4) l0 l3 M))) l0 l3 M))
theorem nX12_does_49 {Q : Mem → Prop} {l0 : Nat} {l1 : Int32} {l2 : Int32} {l3 : Int32} {M : Mem} (hk_l0 : SHk l0 = 12) (h : NX12_does_49 Q l0 l1 l2 l3 M) : xX RX12 cX12_does 4 none 6 49 [(0, .ref l0), (1, .int l1), (2, .int l2), (3, .int l3)] [] M (xQv Q) := by
  unfold NX12_does_49 at h
  refine x_iload_n dX12_does_49 rfl 50 rfl ?_
  refine x_iconst dX12_does_50 kc_2 51 rfl ?_
  refine x_icmp_ne dX12_does_51 68 54 rfl rfl (fun hc => ?_) (fun hc => ?_)
  · have h := h.1 hc
    exact nX12_does_68 hk_l0 h
  · have h := h.2 hc
    refine x_aload_n dX12_does_54 rfl 55 rfl ?_
    refine x_iload_n dX12_does_55 rfl 56 rfl ?_
    refine kX12_pillarOf dX12_does_56 59 rfl hk_l0 kw7_46 (Nat.le_of_ble_eq_true rfl) (Nat.le_of_ble_eq_true rfl) h (fun r3 h => ?_)
    refine x_iconst dX12_does_59 kc_m1 60 rfl ?_
    refine x_icmp_eq dX12_does_60 68 63 rfl rfl (fun hc => ?_) (fun hc => ?_)
    · have h := h.1 hc
      exact nX12_does_68 hk_l0 h
    · have h := h.2 hc
      refine x_aload_n dX12_does_63 rfl 64 rfl ?_
      refine x_iload_n dX12_does_64 rfl 65 rfl ?_
      refine kX12_isDown dX12_does_65 68 rfl hk_l0 kw7_66 (Nat.le_of_ble_eq_true rfl) (Nat.le_of_ble_eq_true rfl) h (fun M4 h => ?_)
      exact nX12_does_68 hk_l0 h
def NX12_does_29 (Q : Mem → Prop) (l0 : Nat) (l1 : Int32) (l2 : Int32) (l3 : Int32) (M : Mem) : Prop :=
  ((¬ l2 = 1 → NX12_does_49 Q l0 l1 l2 l3 M) ∧ (l2 = 1 → FX12_highest (fun (r5 : Int32) => ((r5 = (-1) → NX12_does_49 Q l0 l1 l2 l3 M) ∧ (¬ r5 = (-1) → FX12_acts (fun (M6 : Mem) => NX12_does_49 Q l0 l1 l2 l3 M6) l0 1 0 l3 M))) l0 M))
theorem nX12_does_29 {Q : Mem → Prop} {l0 : Nat} {l1 : Int32} {l2 : Int32} {l3 : Int32} {M : Mem} (hk_l0 : SHk l0 = 12) (h : NX12_does_29 Q l0 l1 l2 l3 M) : xX RX12 cX12_does 4 none 6 29 [(0, .ref l0), (1, .int l1), (2, .int l2), (3, .int l3)] [] M (xQv Q) := by
  unfold NX12_does_29 at h
  refine x_iload_n dX12_does_29 rfl 30 rfl ?_
  refine x_iconst dX12_does_30 kc_1 31 rfl ?_
  refine x_icmp_ne dX12_does_31 49 34 rfl rfl (fun hc => ?_) (fun hc => ?_)
  · have h := h.1 hc
    exact nX12_does_49 hk_l0 h
  · have h := h.2 hc
    refine x_aload_n dX12_does_34 rfl 35 rfl ?_
    refine kX12_highest dX12_does_35 38 rfl hk_l0 kw7_42 (Nat.le_of_ble_eq_true rfl) (Nat.le_of_ble_eq_true rfl) h (fun r5 h => ?_)
    refine x_iconst dX12_does_38 kc_m1 39 rfl ?_
    refine x_icmp_eq dX12_does_39 49 42 rfl rfl (fun hc => ?_) (fun hc => ?_)
    · have h := h.1 hc
      exact nX12_does_49 hk_l0 h
    · have h := h.2 hc
      refine x_aload_n dX12_does_42 rfl 43 rfl ?_
      refine x_iconst dX12_does_43 kc_1 44 rfl ?_
      refine x_iconst dX12_does_44 kc_0 45 rfl ?_
      refine x_iload_n dX12_does_45 rfl 46 rfl ?_
      refine kX12_acts dX12_does_46 49 rfl hk_l0 kw7_58 (Nat.le_of_ble_eq_true rfl) (Nat.le_of_ble_eq_true rfl) h (fun M6 h => ?_)
      exact nX12_does_49 hk_l0 h
def FX12_does (Q : Mem → Prop) (l0 : Nat) (l1 : Int32) (M : Mem) : Prop :=
  vp_in (l1 + 1) 128 ∧ ∀ y7 : Int32, y7 = M (l0 + 17) (ix (l1 + 1)) → vp_in (l1 + 2) 128 ∧ ∀ y8 : Int32, y8 = M (l0 + 17) (ix (l1 + 2)) → ((¬ y7 = 0 → NX12_does_29 Q l0 l1 y7 y8 M) ∧ (y7 = 0 → ∀ M9 : Mem, M9 = xu M (l0 + 1) (3) y8 → NX12_does_29 Q l0 l1 y7 y8 M9))
theorem eX12_does {Q : Mem → Prop} {l0 : Nat} {l1 : Int32} {M : Mem} (hk_l0 : SHk l0 = 12) (h : FX12_does Q l0 l1 M) : xX RX12 cX12_does 4 none 6 0 [(0, .ref l0), (1, .int l1)] [] M (xQv Q) := by
  unfold FX12_does at h
  refine x_aload_n dX12_does_0 rfl 1 rfl ?_
  refine gf12_36 dX12_does_1 4 rfl hk_l0 kw5_195 ?_
  refine x_iload_n dX12_does_4 rfl 5 rfl ?_
  refine x_iconst dX12_does_5 kc_1 6 rfl ?_
  refine x_iadd dX12_does_6 7 rfl ?_
  obtain ⟨hin, h⟩ := h
  refine x_iaload dX12_does_7 (ly12_36 hk_l0) hin 8 rfl ?_
  refine x_top (fun y7 hy7 => ?_)
  have h := h y7 hy7
  refine x_istore_n dX12_does_8 (Nat.le_of_ble_eq_true rfl) [(0, .ref l0), (1, .int l1), (2, .int y7)] rfl 9 rfl ?_
  refine x_aload_n dX12_does_9 rfl 10 rfl ?_
  refine gf12_36 dX12_does_10 13 rfl hk_l0 kw5_195 ?_
  refine x_iload_n dX12_does_13 rfl 14 rfl ?_
  refine x_iconst dX12_does_14 kc_2 15 rfl ?_
  refine x_iadd dX12_does_15 16 rfl ?_
  obtain ⟨hin, h⟩ := h
  refine x_iaload dX12_does_16 (ly12_36 hk_l0) hin 17 rfl ?_
  refine x_top (fun y8 hy8 => ?_)
  have h := h y8 hy8
  refine x_istore_n dX12_does_17 (Nat.le_of_ble_eq_true rfl) [(0, .ref l0), (1, .int l1), (2, .int y7), (3, .int y8)] rfl 18 rfl ?_
  refine x_iload_n dX12_does_18 rfl 19 rfl ?_
  refine x_if_ne dX12_does_19 29 22 rfl rfl (fun hc => ?_) (fun hc => ?_)
  · have h := h.1 hc
    exact nX12_does_29 hk_l0 h
  · have h := h.2 hc
    refine x_aload_n dX12_does_22 rfl 23 rfl ?_
    refine gf12_1 dX12_does_23 26 rfl hk_l0 kw5_160 ?_
    refine x_iconst dX12_does_26 kc_3 27 rfl ?_
    refine x_iload_n dX12_does_27 rfl 28 rfl ?_
    refine x_iastore dX12_does_28 (ly12_1 hk_l0) (by unfold vp_in; decide) 29 rfl (x_mem (fun M9 hM9 => ?_))
    have h := h M9 hM9
    exact nX12_does_29 hk_l0 h
theorem cX12_does_ {Q : Mem → Prop} {l0 : Nat} {l1 : Int32} {M : Mem} (hk_l0 : SHk l0 = 12) (h : FX12_does Q l0 l1 M) : xM yX12_does cX12_does 4 none 6 [.ref l0, .int l1] M (xQv Q) := xM_of (by decide +kernel) (Nat.le_of_ble_eq_true rfl) (eX12_does hk_l0 h)
theorem kX12_does {own : String} {cc : ByteArray} {nL : Nat} {rt : Option FieldType} {d pc ix : Nat} {L : List (Nat × Value)} {st : List Value} {M : Mem} {Rt : xGt → Array Value → State → Outcome → State → Prop} {Q : Mem → Prop} {l0 : Nat} {l1 : Int32} (hd : decode cc pc = .ok (.invokevirtual ix, 3)) (q : Nat) (hq : pc + 3 = q) (hk_l0 : SHk l0 = 12) (w1 : Cond.methodLink own ix yX12_does ∈ xTs) (hr : 6 < d) (hst : (st.map fun v => v.category).sum ≤ 8) (h : FX12_does Q l0 l1 M) (k : ∀ (N : Mem), Q N → xX own cc nL rt d q L st N Rt) : xX own cc nL rt d pc L (.int l1 :: .ref l0 :: st) M Rt :=
  x_callV_v (n := 1) (As := [.int l1]) hd q hq hk_l0 (by decide) rfl rfl w1 kw7_80 ks6_4 kw1_14 kw7_81 (by decide +kernel) rfl hr (by decide) hst _ rfl (cX12_does_ hk_l0 h) k
def NX12_eats_97 (Q : Mem → Prop) (s0 : Nat) (s1 : Int32) (s2 : Int32) (M : Mem) : Prop :=
  vp_in s1 (SHn s0) ∧ ∀ M1 : Mem, M1 = xu M s0 (ix s1) s2 → Q M1
theorem nX12_eats_97 {Q : Mem → Prop} {s0 : Nat} {s1 : Int32} {s2 : Int32} {M : Mem} (hk_s0 : SHk s0 = 13) (h : NX12_eats_97 Q s0 s1 s2 M) : xX RX12 cX12_eats 4 none 6 97 [] [.int s2, .int s1, .ref s0] M (xQv Q) := by
  unfold NX12_eats_97 at h
  obtain ⟨hin, h⟩ := h
  refine x_iastore dX12_eats_97 ⟨hk_s0, rfl⟩ hin 98 rfl (x_mem (fun M1 hM1 => ?_))
  have h := h M1 hM1
  exact x_vret dX12_eats_98 h
def NX12_eats_43 (Q : Mem → Prop) (l0 : Nat) (l1 : Int32) (l2 : Int32) (l3 : Int32) (M : Mem) : Prop :=
  ((¬ l3 = l2 → vp_in (35 + l1) 107 ∧ FX12_lesser (fun (r2 : Int32) => NX12_eats_97 Q (l0 + 1) (35 + l1) r2 M) l0 99 ((M (l0 + 1) (ix (35 + l1))) + (5 * (l2 - l3))) M) ∧ (l3 = l2 → vp_in (35 + l1) 107 ∧ FX12_greater (fun (r3 : Int32) => NX12_eats_97 Q (l0 + 1) (35 + l1) r3 M) l0 0 ((M (l0 + 1) (ix (35 + l1))) - 10) M))
theorem nX12_eats_43 {Q : Mem → Prop} {l0 : Nat} {l1 : Int32} {l2 : Int32} {l3 : Int32} {M : Mem} (hk_l0 : SHk l0 = 12) (h : NX12_eats_43 Q l0 l1 l2 l3 M) : xX RX12 cX12_eats 4 none 6 43 [(0, .ref l0), (1, .int l1), (2, .int l2), (3, .int l3)] [] M (xQv Q) := by
  unfold NX12_eats_43 at h
  refine x_aload_n dX12_eats_43 rfl 44 rfl ?_
  refine gf12_1 dX12_eats_44 47 rfl hk_l0 kw5_160 ?_
  refine x_bipush dX12_eats_47 kb_35 49 rfl ?_
  refine x_iload_n dX12_eats_49 rfl 50 rfl ?_
  refine x_iadd dX12_eats_50 51 rfl ?_
  refine x_iload_n dX12_eats_51 rfl 52 rfl ?_
  refine x_iload_n dX12_eats_52 rfl 53 rfl ?_
  refine x_icmp_ne dX12_eats_53 76 56 rfl rfl (fun hc => ?_) (fun hc => ?_)
  · have h := h.1 hc
    refine x_aload_n dX12_eats_76 rfl 77 rfl ?_
    refine x_bipush dX12_eats_77 kb_99 79 rfl ?_
    refine x_aload_n dX12_eats_79 rfl 80 rfl ?_
    refine gf12_1 dX12_eats_80 83 rfl hk_l0 kw5_160 ?_
    refine x_bipush dX12_eats_83 kb_35 85 rfl ?_
    refine x_iload_n dX12_eats_85 rfl 86 rfl ?_
    refine x_iadd dX12_eats_86 87 rfl ?_
    obtain ⟨hin, h⟩ := h
    refine x_iaload dX12_eats_87 (ly12_1 hk_l0) hin 88 rfl ?_
    refine x_iconst dX12_eats_88 kc_5 89 rfl ?_
    refine x_iload_n dX12_eats_89 rfl 90 rfl ?_
    refine x_iload_n dX12_eats_90 rfl 91 rfl ?_
    refine x_isub dX12_eats_91 92 rfl ?_
    refine x_imul dX12_eats_92 93 rfl ?_
    refine x_iadd dX12_eats_93 94 rfl ?_
    refine kX12_lesser dX12_eats_94 97 rfl hk_l0 kw7_62 (Nat.le_of_ble_eq_true rfl) (Nat.le_of_ble_eq_true rfl) h (fun r2 h => ?_)
    refine x_weak [] [] rfl ?_
    exact nX12_eats_97 (ly12_1 hk_l0).1 h
  · have h := h.2 hc
    refine x_aload_n dX12_eats_56 rfl 57 rfl ?_
    refine x_iconst dX12_eats_57 kc_0 58 rfl ?_
    refine x_aload_n dX12_eats_58 rfl 59 rfl ?_
    refine gf12_1 dX12_eats_59 62 rfl hk_l0 kw5_160 ?_
    refine x_bipush dX12_eats_62 kb_35 64 rfl ?_
    refine x_iload_n dX12_eats_64 rfl 65 rfl ?_
    refine x_iadd dX12_eats_65 66 rfl ?_
    obtain ⟨hin, h⟩ := h
    refine x_iaload dX12_eats_66 (ly12_1 hk_l0) hin 67 rfl ?_
    refine x_bipush dX12_eats_67 kb_10 69 rfl ?_
    refine x_isub dX12_eats_69 70 rfl ?_
    refine kX12_greater dX12_eats_70 73 rfl hk_l0 kw7_130 (Nat.le_of_ble_eq_true rfl) (Nat.le_of_ble_eq_true rfl) h (fun r3 h => ?_)
    refine x_goto dX12_eats_73 97 rfl ?_
    refine x_weak [] [] rfl ?_
    exact nX12_eats_97 (ly12_1 hk_l0).1 h
def FX12_eats (Q : Mem → Prop) (l0 : Nat) (l1 : Int32) (M : Mem) : Prop :=
  FX12_eatsOf (fun (r5 : Int32) (M4 : Mem) => FX12_lesser (fun (r6 : Int32) => ∀ M7 : Mem, M7 = xu M4 (l0 + 1) (3) ((M4 (l0 + 1) 3) - r6) → ((r6 ≤ 0 → NX12_eats_43 Q l0 l1 r5 r6 M7) ∧ (¬ r6 ≤ 0 → FX12_notes (fun (M8 : Mem) => NX12_eats_43 Q l0 l1 r5 r6 M8) l0 0 l1 r6 M7))) l0 r5 (M4 (l0 + 1) 3) M4) l0 l1 M
theorem eX12_eats {Q : Mem → Prop} {l0 : Nat} {l1 : Int32} {M : Mem} (hk_l0 : SHk l0 = 12) (h : FX12_eats Q l0 l1 M) : xX RX12 cX12_eats 4 none 6 0 [(0, .ref l0), (1, .int l1)] [] M (xQv Q) := by
  unfold FX12_eats at h
  refine x_aload_n dX12_eats_0 rfl 1 rfl ?_
  refine x_iload_n dX12_eats_1 rfl 2 rfl ?_
  refine kX12_eatsOf dX12_eats_2 5 rfl hk_l0 kw7_94 (Nat.le_of_ble_eq_true rfl) (Nat.le_of_ble_eq_true rfl) h (fun r5 M4 h => ?_)
  refine x_istore_n dX12_eats_5 (Nat.le_of_ble_eq_true rfl) [(0, .ref l0), (1, .int l1), (2, .int r5)] rfl 6 rfl ?_
  refine x_aload_n dX12_eats_6 rfl 7 rfl ?_
  refine x_iload_n dX12_eats_7 rfl 8 rfl ?_
  refine x_aload_n dX12_eats_8 rfl 9 rfl ?_
  refine gf12_1 dX12_eats_9 12 rfl hk_l0 kw5_160 ?_
  refine x_iconst dX12_eats_12 kc_3 13 rfl ?_
  refine x_iaload dX12_eats_13 (ly12_1 hk_l0) (by unfold vp_in; decide) 14 rfl ?_
  refine kX12_lesser dX12_eats_14 17 rfl hk_l0 kw7_62 (Nat.le_of_ble_eq_true rfl) (Nat.le_of_ble_eq_true rfl) h (fun r6 h => ?_)
  refine x_istore_n dX12_eats_17 (Nat.le_of_ble_eq_true rfl) [(0, .ref l0), (1, .int l1), (2, .int r5), (3, .int r6)] rfl 18 rfl ?_
  refine x_aload_n dX12_eats_18 rfl 19 rfl ?_
  refine gf12_1 dX12_eats_19 22 rfl hk_l0 kw5_160 ?_
  refine x_iconst dX12_eats_22 kc_3 23 rfl ?_
  refine x_aload_n dX12_eats_23 rfl 24 rfl ?_
  refine gf12_1 dX12_eats_24 27 rfl hk_l0 kw5_160 ?_
  refine x_iconst dX12_eats_27 kc_3 28 rfl ?_
  refine x_iaload dX12_eats_28 (ly12_1 hk_l0) (by unfold vp_in; decide) 29 rfl ?_
  refine x_iload_n dX12_eats_29 rfl 30 rfl ?_
  refine x_isub dX12_eats_30 31 rfl ?_
  refine x_iastore dX12_eats_31 (ly12_1 hk_l0) (by unfold vp_in; decide) 32 rfl (x_mem (fun M7 hM7 => ?_))
  have h := h M7 hM7
  refine x_iload_n dX12_eats_32 rfl 33 rfl ?_
  refine x_if_le dX12_eats_33 43 36 rfl rfl (fun hc => ?_) (fun hc => ?_)
  · have h := h.1 hc
    exact nX12_eats_43 hk_l0 h
  · have h := h.2 hc
    refine x_aload_n dX12_eats_36 rfl 37 rfl ?_
    refine x_iconst dX12_eats_37 kc_0 38 rfl ?_
    refine x_iload_n dX12_eats_38 rfl 39 rfl ?_
    refine x_iload_n dX12_eats_39 rfl 40 rfl ?_
    refine kX12_notes dX12_eats_40 43 rfl hk_l0 kw6_102 (Nat.le_of_ble_eq_true rfl) (Nat.le_of_ble_eq_true rfl) h (fun M8 h => ?_)
    exact nX12_eats_43 hk_l0 h
theorem cX12_eats_ {Q : Mem → Prop} {l0 : Nat} {l1 : Int32} {M : Mem} (hk_l0 : SHk l0 = 12) (h : FX12_eats Q l0 l1 M) : xM yX12_eats cX12_eats 4 none 6 [.ref l0, .int l1] M (xQv Q) := xM_of (by decide +kernel) (Nat.le_of_ble_eq_true rfl) (eX12_eats hk_l0 h)
theorem kX12_eats {own : String} {cc : ByteArray} {nL : Nat} {rt : Option FieldType} {d pc ix : Nat} {L : List (Nat × Value)} {st : List Value} {M : Mem} {Rt : xGt → Array Value → State → Outcome → State → Prop} {Q : Mem → Prop} {l0 : Nat} {l1 : Int32} (hd : decode cc pc = .ok (.invokevirtual ix, 3)) (q : Nat) (hq : pc + 3 = q) (hk_l0 : SHk l0 = 12) (w1 : Cond.methodLink own ix yX12_eats ∈ xTs) (hr : 6 < d) (hst : (st.map fun v => v.category).sum ≤ 8) (h : FX12_eats Q l0 l1 M) (k : ∀ (N : Mem), Q N → xX own cc nL rt d q L st N Rt) : xX own cc nL rt d pc L (.int l1 :: .ref l0 :: st) M Rt :=
  x_callV_v (n := 1) (As := [.int l1]) hd q hq hk_l0 (by decide) rfl rfl w1 kw7_92 ks6_7 kw1_14 kw7_93 (by decide +kernel) rfl hr (by decide) hst _ rfl (cX12_eats_ hk_l0 h) k
def lbX12_basketGoes_63 (Q : Mem → Prop) (l0 : Nat) (B63 : Int32 → Mem → Prop) (l1 : Int32) (M : Mem) : Prop :=
  (((M (l0 + 1) 6) ≤ l1 → Q M) ∧ (¬ (M (l0 + 1) 6) ≤ l1 → vp_in (93 + l1) 107 ∧ vp_in (93 + l1) 107 ∧ vp_in (35 + (M (l0 + 1) (ix (93 + l1)))) 107 ∧ FX12_lesser (fun (r1 : Int32) => vp_in (35 + (M (l0 + 1) (ix (93 + l1)))) 107 ∧ ∀ M2 : Mem, M2 = xu M (l0 + 1) (ix (35 + (M (l0 + 1) (ix (93 + l1))))) r1 → B63 (l1 + 1) M2) l0 99 ((M (l0 + 1) (ix (35 + (M (l0 + 1) (ix (93 + l1)))))) + 1) M))
def NX12_basketGoes_63 (Q : Mem → Prop) (l0 : Nat) (l1 : Int32) (M : Mem) : Prop := xlp (fun (B : Int32 × Mem → Prop) a => lbX12_basketGoes_63 Q l0 (fun l1 M => B (l1, M)) a.1 a.2) (l1, M)
theorem nX12_basketGoes_63 {Q : Mem → Prop} {l0 : Nat} {l1 : Int32} {M : Mem} (hk_l0 : SHk l0 = 12) (h : NX12_basketGoes_63 Q l0 l1 M) : xX RX12 cX12_basketGoes 2 none 7 63 [(0, .ref l0), (1, .int l1)] [] M (xQv Q) := by
  obtain ⟨n, h⟩ := h
  have hB63 : ∀ (n : Nat) (l1 : Int32) (M : Mem), xlpn (fun (B : Int32 × Mem → Prop) a => lbX12_basketGoes_63 Q l0 (fun l1 M => B (l1, M)) a.1 a.2) n (l1, M) → xX RX12 cX12_basketGoes 2 none 7 63 [(0, .ref l0), (1, .int l1)] [] M (xQv Q) := by
    intro n
    induction n with
    | zero => intro l1 M h; exact False.elim h
    | succ n ih =>
      intro l1 M h
      have hB63 := ih
      have h : lbX12_basketGoes_63 Q l0 (fun l1 M => xlpn (fun (B : Int32 × Mem → Prop) a => lbX12_basketGoes_63 Q l0 (fun l1 M => B (l1, M)) a.1 a.2) n (l1, M)) l1 M := h
      unfold lbX12_basketGoes_63 at h
      refine x_iload_n dX12_basketGoes_63 rfl 64 rfl ?_
      refine x_aload_n dX12_basketGoes_64 rfl 65 rfl ?_
      refine gf12_1 dX12_basketGoes_65 68 rfl hk_l0 kw5_160 ?_
      refine x_bipush dX12_basketGoes_68 kb_6 70 rfl ?_
      refine x_iaload dX12_basketGoes_70 (ly12_1 hk_l0) (by unfold vp_in; decide) 71 rfl ?_
      refine x_icmp_ge dX12_basketGoes_71 122 74 rfl rfl (fun hc => ?_) (fun hc => ?_)
      · have h := h.1 hc
        exact x_vret dX12_basketGoes_122 h
      · have h := h.2 hc
        refine x_aload_n dX12_basketGoes_74 rfl 75 rfl ?_
        refine gf12_1 dX12_basketGoes_75 78 rfl hk_l0 kw5_160 ?_
        refine x_bipush dX12_basketGoes_78 kb_35 80 rfl ?_
        refine x_aload_n dX12_basketGoes_80 rfl 81 rfl ?_
        refine gf12_1 dX12_basketGoes_81 84 rfl hk_l0 kw5_160 ?_
        refine x_bipush dX12_basketGoes_84 kb_93 86 rfl ?_
        refine x_iload_n dX12_basketGoes_86 rfl 87 rfl ?_
        refine x_iadd dX12_basketGoes_87 88 rfl ?_
        obtain ⟨hin, h⟩ := h
        refine x_iaload dX12_basketGoes_88 (ly12_1 hk_l0) hin 89 rfl ?_
        refine x_iadd dX12_basketGoes_89 90 rfl ?_
        refine x_aload_n dX12_basketGoes_90 rfl 91 rfl ?_
        refine x_bipush dX12_basketGoes_91 kb_99 93 rfl ?_
        refine x_aload_n dX12_basketGoes_93 rfl 94 rfl ?_
        refine gf12_1 dX12_basketGoes_94 97 rfl hk_l0 kw5_160 ?_
        refine x_bipush dX12_basketGoes_97 kb_35 99 rfl ?_
        refine x_aload_n dX12_basketGoes_99 rfl 100 rfl ?_
        refine gf12_1 dX12_basketGoes_100 103 rfl hk_l0 kw5_160 ?_
        refine x_bipush dX12_basketGoes_103 kb_93 105 rfl ?_
        refine x_iload_n dX12_basketGoes_105 rfl 106 rfl ?_
        refine x_iadd dX12_basketGoes_106 107 rfl ?_
        obtain ⟨hin, h⟩ := h
        refine x_iaload dX12_basketGoes_107 (ly12_1 hk_l0) hin 108 rfl ?_
        refine x_iadd dX12_basketGoes_108 109 rfl ?_
        obtain ⟨hin, h⟩ := h
        refine x_iaload dX12_basketGoes_109 (ly12_1 hk_l0) hin 110 rfl ?_
        refine x_iconst dX12_basketGoes_110 kc_1 111 rfl ?_
        refine x_iadd dX12_basketGoes_111 112 rfl ?_
        refine kX12_lesser dX12_basketGoes_112 115 rfl hk_l0 kw7_62 (Nat.le_of_ble_eq_true rfl) (Nat.le_of_ble_eq_true rfl) h (fun r1 h => ?_)
        obtain ⟨hin, h⟩ := h
        refine x_iastore dX12_basketGoes_115 (ly12_1 hk_l0) hin 116 rfl (x_mem (fun M2 hM2 => ?_))
        have h := h M2 hM2
        refine x_iinc dX12_basketGoes_116 rfl (congrArg (l1 + ·) kc_1) (Nat.le_of_ble_eq_true rfl) [(0, .ref l0), (1, .int (l1 + 1))] rfl 119 rfl ?_
        refine x_goto dX12_basketGoes_119 63 rfl ?_
        exact hB63 _ _ h
  exact hB63 n l1 M h
def lbX12_basketGoes_7 (Q : Mem → Prop) (l0 : Nat) (B7 : Int32 → Mem → Prop) (l1 : Int32) (M : Mem) : Prop :=
  ((l1 < 0 → ∀ M3 : Mem, M3 = xu M (l0 + 1) (4) ((M (l0 + 1) 4) + (M (l0 + 1) 3)) → ∀ M4 : Mem, M4 = xu M3 (l0 + 1) (3) 0 → NX12_basketGoes_63 Q l0 0 M4) ∧ (¬ l1 < 0 → FX12_sitterOf (fun (r5 : Int32) => ((r5 = (-1) → B7 (l1 + (-1)) M) ∧ (¬ r5 = (-1) → FX12_sitterOf (fun (r6 : Int32) => FX12_eats (fun (M7 : Mem) => B7 (l1 + (-1)) M7) l0 r6 M) l0 l1 M))) l0 l1 M))
def NX12_basketGoes_7 (Q : Mem → Prop) (l0 : Nat) (l1 : Int32) (M : Mem) : Prop := xlp (fun (B : Int32 × Mem → Prop) a => lbX12_basketGoes_7 Q l0 (fun l1 M => B (l1, M)) a.1 a.2) (l1, M)
theorem nX12_basketGoes_7 {Q : Mem → Prop} {l0 : Nat} {l1 : Int32} {M : Mem} (hk_l0 : SHk l0 = 12) (h : NX12_basketGoes_7 Q l0 l1 M) : xX RX12 cX12_basketGoes 2 none 7 7 [(0, .ref l0), (1, .int l1)] [] M (xQv Q) := by
  obtain ⟨n, h⟩ := h
  have hB7 : ∀ (n : Nat) (l1 : Int32) (M : Mem), xlpn (fun (B : Int32 × Mem → Prop) a => lbX12_basketGoes_7 Q l0 (fun l1 M => B (l1, M)) a.1 a.2) n (l1, M) → xX RX12 cX12_basketGoes 2 none 7 7 [(0, .ref l0), (1, .int l1)] [] M (xQv Q) := by
    intro n
    induction n with
    | zero => intro l1 M h; exact False.elim h
    | succ n ih =>
      intro l1 M h
      have hB7 := ih
      have h : lbX12_basketGoes_7 Q l0 (fun l1 M => xlpn (fun (B : Int32 × Mem → Prop) a => lbX12_basketGoes_7 Q l0 (fun l1 M => B (l1, M)) a.1 a.2) n (l1, M)) l1 M := h
      unfold lbX12_basketGoes_7 at h
      refine x_iload_n dX12_basketGoes_7 rfl 8 rfl ?_
      refine x_if_lt dX12_basketGoes_8 35 11 rfl rfl (fun hc => ?_) (fun hc => ?_)
      · have h := h.1 hc
        refine x_aload_n dX12_basketGoes_35 rfl 36 rfl ?_
        refine gf12_1 dX12_basketGoes_36 39 rfl hk_l0 kw5_160 ?_
        refine x_iconst dX12_basketGoes_39 kc_4 40 rfl ?_
        refine x_aload_n dX12_basketGoes_40 rfl 41 rfl ?_
        refine gf12_1 dX12_basketGoes_41 44 rfl hk_l0 kw5_160 ?_
        refine x_iconst dX12_basketGoes_44 kc_4 45 rfl ?_
        refine x_iaload dX12_basketGoes_45 (ly12_1 hk_l0) (by unfold vp_in; decide) 46 rfl ?_
        refine x_aload_n dX12_basketGoes_46 rfl 47 rfl ?_
        refine gf12_1 dX12_basketGoes_47 50 rfl hk_l0 kw5_160 ?_
        refine x_iconst dX12_basketGoes_50 kc_3 51 rfl ?_
        refine x_iaload dX12_basketGoes_51 (ly12_1 hk_l0) (by unfold vp_in; decide) 52 rfl ?_
        refine x_iadd dX12_basketGoes_52 53 rfl ?_
        refine x_iastore dX12_basketGoes_53 (ly12_1 hk_l0) (by unfold vp_in; decide) 54 rfl (x_mem (fun M3 hM3 => ?_))
        have h := h M3 hM3
        refine x_aload_n dX12_basketGoes_54 rfl 55 rfl ?_
        refine gf12_1 dX12_basketGoes_55 58 rfl hk_l0 kw5_160 ?_
        refine x_iconst dX12_basketGoes_58 kc_3 59 rfl ?_
        refine x_iconst dX12_basketGoes_59 kc_0 60 rfl ?_
        refine x_iastore dX12_basketGoes_60 (ly12_1 hk_l0) (by unfold vp_in; decide) 61 rfl (x_mem (fun M4 hM4 => ?_))
        have h := h M4 hM4
        refine x_iconst dX12_basketGoes_61 kc_0 62 rfl ?_
        refine x_istore_n dX12_basketGoes_62 (Nat.le_of_ble_eq_true rfl) [(0, .ref l0), (1, .int 0)] rfl 63 rfl ?_
        exact nX12_basketGoes_63 hk_l0 h
      · have h := h.2 hc
        refine x_aload_n dX12_basketGoes_11 rfl 12 rfl ?_
        refine x_iload_n dX12_basketGoes_12 rfl 13 rfl ?_
        refine kX12_sitterOf dX12_basketGoes_13 16 rfl hk_l0 kw6_90 (Nat.le_of_ble_eq_true rfl) (Nat.le_of_ble_eq_true rfl) h (fun r5 h => ?_)
        refine x_iconst dX12_basketGoes_16 kc_m1 17 rfl ?_
        refine x_icmp_eq dX12_basketGoes_17 29 20 rfl rfl (fun hc => ?_) (fun hc => ?_)
        · have h := h.1 hc
          refine x_iinc dX12_basketGoes_29 rfl (congrArg (l1 + ·) kc_m1) (Nat.le_of_ble_eq_true rfl) [(0, .ref l0), (1, .int (l1 + (-1)))] rfl 32 rfl ?_
          refine x_goto dX12_basketGoes_32 7 rfl ?_
          exact hB7 _ _ h
        · have h := h.2 hc
          refine x_aload_n dX12_basketGoes_20 rfl 21 rfl ?_
          refine x_aload_n dX12_basketGoes_21 rfl 22 rfl ?_
          refine x_iload_n dX12_basketGoes_22 rfl 23 rfl ?_
          refine kX12_sitterOf dX12_basketGoes_23 26 rfl hk_l0 kw6_90 (Nat.le_of_ble_eq_true rfl) (Nat.le_of_ble_eq_true rfl) h (fun r6 h => ?_)
          refine kX12_eats dX12_basketGoes_26 29 rfl hk_l0 kw7_90 (Nat.le_of_ble_eq_true rfl) (Nat.le_of_ble_eq_true rfl) h (fun M7 h => ?_)
          refine x_iinc dX12_basketGoes_29 rfl (congrArg (l1 + ·) kc_m1) (Nat.le_of_ble_eq_true rfl) [(0, .ref l0), (1, .int (l1 + (-1)))] rfl 32 rfl ?_
          refine x_goto dX12_basketGoes_32 7 rfl ?_
          exact hB7 _ _ h
  exact hB7 n l1 M h
def FX12_basketGoes (Q : Mem → Prop) (l0 : Nat) (M : Mem) : Prop :=
  NX12_basketGoes_7 Q l0 ((M l0 6) - 1) M
theorem eX12_basketGoes {Q : Mem → Prop} {l0 : Nat} {M : Mem} (hk_l0 : SHk l0 = 12) (h : FX12_basketGoes Q l0 M) : xX RX12 cX12_basketGoes 2 none 7 0 [(0, .ref l0)] [] M (xQv Q) := by
  unfold FX12_basketGoes at h
  refine x_aload_n dX12_basketGoes_0 rfl 1 rfl ?_
  refine gf12_6 dX12_basketGoes_1 4 rfl hk_l0 kw5_165 ?_
  refine x_iconst dX12_basketGoes_4 kc_1 5 rfl ?_
  refine x_isub dX12_basketGoes_5 6 rfl ?_
  refine x_istore_n dX12_basketGoes_6 (Nat.le_of_ble_eq_true rfl) [(0, .ref l0), (1, .int ((M l0 6) - 1))] rfl 7 rfl ?_
  exact nX12_basketGoes_7 hk_l0 h
theorem cX12_basketGoes_ {Q : Mem → Prop} {l0 : Nat} {M : Mem} (hk_l0 : SHk l0 = 12) (h : FX12_basketGoes Q l0 M) : xM yX12_basketGoes cX12_basketGoes 2 none 7 [.ref l0] M (xQv Q) := xM_of (by decide +kernel) (Nat.le_of_ble_eq_true rfl) (eX12_basketGoes hk_l0 h)
theorem kX12_basketGoes {own : String} {cc : ByteArray} {nL : Nat} {rt : Option FieldType} {d pc ix : Nat} {L : List (Nat × Value)} {st : List Value} {M : Mem} {Rt : xGt → Array Value → State → Outcome → State → Prop} {Q : Mem → Prop} {l0 : Nat} (hd : decode cc pc = .ok (.invokevirtual ix, 3)) (q : Nat) (hq : pc + 3 = q) (hk_l0 : SHk l0 = 12) (w1 : Cond.methodLink own ix yX12_basketGoes ∈ xTs) (hr : 7 < d) (hst : (st.map fun v => v.category).sum ≤ 8) (h : FX12_basketGoes Q l0 M) (k : ∀ (N : Mem), Q N → xX own cc nL rt d q L st N Rt) : xX own cc nL rt d pc L (.ref l0 :: st) M Rt :=
  x_callV_v (n := 0) (As := []) hd q hq hk_l0 (by decide) rfl rfl w1 kw7_88 ks6_6 kw1_14 kw7_89 (by decide +kernel) rfl hr (by decide) hst _ rfl (cX12_basketGoes_ hk_l0 h) k
def FX12_heardAs (Q : Int32 → Mem → Prop) (l0 : Nat) (l1 : Int32) (l2 : Int32) (M : Mem) : Prop :=
  FX12_sitterOf (fun (r1 : Int32) => ((¬ r1 = (-1) → FX12_leansOf (fun (r3 : Int32) (M2 : Mem) => FX12_partOf (fun (r4 : Int32) => FX12_held (fun (r5 : Int32) => Q r5 M2) l0 (l1 + r4) (-99) 99 M2) l0 r3 9 M2) l0 r1 M) ∧ (r1 = (-1) → Q l1 M))) l0 l2 M
theorem eX12_heardAs {Q : Int32 → Mem → Prop} {l0 : Nat} {l1 : Int32} {l2 : Int32} {M : Mem} (hk_l0 : SHk l0 = 12) (h : FX12_heardAs Q l0 l1 l2 M) : xX RX12 cX12_heardAs 4 (some .int) 6 0 [(0, .ref l0), (1, .int l1), (2, .int l2)] [] M (xQi Q) := by
  unfold FX12_heardAs at h
  refine x_aload_n dX12_heardAs_0 rfl 1 rfl ?_
  refine x_iload_n dX12_heardAs_1 rfl 2 rfl ?_
  refine kX12_sitterOf dX12_heardAs_2 5 rfl hk_l0 kw6_90 (Nat.le_of_ble_eq_true rfl) (Nat.le_of_ble_eq_true rfl) h (fun r1 h => ?_)
  refine x_istore_n dX12_heardAs_5 (Nat.le_of_ble_eq_true rfl) [(0, .ref l0), (1, .int l1), (2, .int l2), (3, .int r1)] rfl 6 rfl ?_
  refine x_iload_n dX12_heardAs_6 rfl 7 rfl ?_
  refine x_iconst dX12_heardAs_7 kc_m1 8 rfl ?_
  refine x_icmp_ne dX12_heardAs_8 15 11 rfl rfl (fun hc => ?_) (fun hc => ?_)
  · have h := h.1 hc
    refine x_aload_n dX12_heardAs_15 rfl 16 rfl ?_
    refine x_iload_n dX12_heardAs_16 rfl 17 rfl ?_
    refine x_aload_n dX12_heardAs_17 rfl 18 rfl ?_
    refine x_aload_n dX12_heardAs_18 rfl 19 rfl ?_
    refine x_iload_n dX12_heardAs_19 rfl 20 rfl ?_
    refine kX12_leansOf dX12_heardAs_20 23 rfl hk_l0 kw7_142 (Nat.le_of_ble_eq_true rfl) (Nat.le_of_ble_eq_true rfl) h (fun r3 M2 h => ?_)
    refine x_bipush dX12_heardAs_23 kb_9 25 rfl ?_
    refine kX12_partOf dX12_heardAs_25 28 rfl hk_l0 kw7_146 (Nat.le_of_ble_eq_true rfl) (Nat.le_of_ble_eq_true rfl) h (fun r4 h => ?_)
    refine x_iadd dX12_heardAs_28 29 rfl ?_
    refine x_bipush dX12_heardAs_29 kb_m99 31 rfl ?_
    refine x_bipush dX12_heardAs_31 kb_99 33 rfl ?_
    refine kX12_held dX12_heardAs_33 36 rfl hk_l0 kw7_126 (Nat.le_of_ble_eq_true rfl) (Nat.le_of_ble_eq_true rfl) h (fun r5 h => ?_)
    exact x_iret dX12_heardAs_36 h
  · have h := h.2 hc
    refine x_iload_n dX12_heardAs_11 rfl 12 rfl ?_
    refine x_goto dX12_heardAs_12 36 rfl ?_
    exact x_iret dX12_heardAs_36 h
theorem cX12_heardAs_ {Q : Int32 → Mem → Prop} {l0 : Nat} {l1 : Int32} {l2 : Int32} {M : Mem} (hk_l0 : SHk l0 = 12) (h : FX12_heardAs Q l0 l1 l2 M) : xM yX12_heardAs cX12_heardAs 4 (some .int) 6 [.ref l0, .int l1, .int l2] M (xQi Q) := xM_of (by decide +kernel) (Nat.le_of_ble_eq_true rfl) (eX12_heardAs hk_l0 h)
theorem kX12_heardAs {own : String} {cc : ByteArray} {nL : Nat} {rt : Option FieldType} {d pc ix : Nat} {L : List (Nat × Value)} {st : List Value} {M : Mem} {Rt : xGt → Array Value → State → Outcome → State → Prop} {Q : Int32 → Mem → Prop} {l0 : Nat} {l1 : Int32} {l2 : Int32} (hd : decode cc pc = .ok (.invokevirtual ix, 3)) (q : Nat) (hq : pc + 3 = q) (hk_l0 : SHk l0 = 12) (w1 : Cond.methodLink own ix yX12_heardAs ∈ xTs) (hr : 6 < d) (hst : (st.map fun v => v.category).sum ≤ 8) (h : FX12_heardAs Q l0 l1 l2 M) (k : ∀ (r : Int32) (N : Mem), Q r N → xX own cc nL rt d q L (.int r :: st) N Rt) : xX own cc nL rt d pc L (.int l2 :: .int l1 :: .ref l0 :: st) M Rt :=
  x_callV_i (n := 2) (As := [.int l1, .int l2]) hd q hq hk_l0 (by decide) rfl rfl w1 kw7_140 ks7_3 kw1_14 kw7_141 (by decide +kernel) rfl hr (by decide) hst _ rfl (cX12_heardAs_ hk_l0 h) k
def lbX12_adviceGoes_17 (Q : Mem → Prop) (l0 : Nat) (B17 : Int32 → Mem → Prop) (l1 : Int32) (M : Mem) : Prop :=
  (((M l0 6) ≤ (l1 + 1) → Q M) ∧ (¬ (M l0 6) ≤ (l1 + 1) → vp_in ((83 + l1) + 1) 107 ∧ ((¬ (M (l0 + 1) (ix ((83 + l1) + 1))) = 0 → vp_in ((83 + l1) + 1) 107 ∧ FX12_heardAs (fun (r2 : Int32) (M1 : Mem) => vp_in (83 + l1) 107 ∧ ∀ M3 : Mem, M3 = xu M1 (l0 + 1) (ix (83 + l1)) (r2 + 100) → vp_in ((83 + l1) + 1) 107 ∧ ∀ M4 : Mem, M4 = xu M3 (l0 + 1) (ix ((83 + l1) + 1)) 0 → FX12_notes (fun (M5 : Mem) => B17 (l1 + 1) M5) l0 4 l1 r2 M4) l0 ((M (l0 + 1) (ix ((83 + l1) + 1))) - 100) l1 M) ∧ ((M (l0 + 1) (ix ((83 + l1) + 1))) = 0 → B17 (l1 + 1) M))))
def NX12_adviceGoes_17 (Q : Mem → Prop) (l0 : Nat) (l1 : Int32) (M : Mem) : Prop := xlp (fun (B : Int32 × Mem → Prop) a => lbX12_adviceGoes_17 Q l0 (fun l1 M => B (l1, M)) a.1 a.2) (l1, M)
theorem nX12_adviceGoes_17 {Q : Mem → Prop} {l0 : Nat} {l1 : Int32} {M : Mem} (hk_l0 : SHk l0 = 12) (h : NX12_adviceGoes_17 Q l0 l1 M) : xX RX12 cX12_adviceGoes 3 none 7 17 [(0, .ref l0), (1, .int l1)] [] M (xQv Q) := by
  obtain ⟨n, h⟩ := h
  have hB17 : ∀ (n : Nat) (l1 : Int32) (M : Mem), xlpn (fun (B : Int32 × Mem → Prop) a => lbX12_adviceGoes_17 Q l0 (fun l1 M => B (l1, M)) a.1 a.2) n (l1, M) → xX RX12 cX12_adviceGoes 3 none 7 17 [(0, .ref l0), (1, .int l1)] [] M (xQv Q) := by
    intro n
    induction n with
    | zero => intro l1 M h; exact False.elim h
    | succ n ih =>
      intro l1 M h
      have hB17 := ih
      have h : lbX12_adviceGoes_17 Q l0 (fun l1 M => xlpn (fun (B : Int32 × Mem → Prop) a => lbX12_adviceGoes_17 Q l0 (fun l1 M => B (l1, M)) a.1 a.2) n (l1, M)) l1 M := h
      unfold lbX12_adviceGoes_17 at h
      refine x_iload_n dX12_adviceGoes_17 rfl 18 rfl ?_
      refine x_iconst dX12_adviceGoes_18 kc_1 19 rfl ?_
      refine x_iadd dX12_adviceGoes_19 20 rfl ?_
      refine x_aload_n dX12_adviceGoes_20 rfl 21 rfl ?_
      refine gf12_6 dX12_adviceGoes_21 24 rfl hk_l0 kw5_165 ?_
      refine x_icmp_ge dX12_adviceGoes_24 102 27 rfl rfl (fun hc => ?_) (fun hc => ?_)
      · have h := h.1 hc
        exact x_vret dX12_adviceGoes_102 h
      · have h := h.2 hc
        refine x_aload_n dX12_adviceGoes_27 rfl 28 rfl ?_
        refine gf12_1 dX12_adviceGoes_28 31 rfl hk_l0 kw5_160 ?_
        refine x_bipush dX12_adviceGoes_31 kb_83 33 rfl ?_
        refine x_iload_n dX12_adviceGoes_33 rfl 34 rfl ?_
        refine x_iadd dX12_adviceGoes_34 35 rfl ?_
        refine x_iconst dX12_adviceGoes_35 kc_1 36 rfl ?_
        refine x_iadd dX12_adviceGoes_36 37 rfl ?_
        obtain ⟨hin, h⟩ := h
        refine x_iaload dX12_adviceGoes_37 (ly12_1 hk_l0) hin 38 rfl ?_
        refine x_if_ne dX12_adviceGoes_38 44 41 rfl rfl (fun hc => ?_) (fun hc => ?_)
        · have h := h.1 hc
          refine x_aload_n dX12_adviceGoes_44 rfl 45 rfl ?_
          refine x_aload_n dX12_adviceGoes_45 rfl 46 rfl ?_
          refine gf12_1 dX12_adviceGoes_46 49 rfl hk_l0 kw5_160 ?_
          refine x_bipush dX12_adviceGoes_49 kb_83 51 rfl ?_
          refine x_iload_n dX12_adviceGoes_51 rfl 52 rfl ?_
          refine x_iadd dX12_adviceGoes_52 53 rfl ?_
          refine x_iconst dX12_adviceGoes_53 kc_1 54 rfl ?_
          refine x_iadd dX12_adviceGoes_54 55 rfl ?_
          obtain ⟨hin, h⟩ := h
          refine x_iaload dX12_adviceGoes_55 (ly12_1 hk_l0) hin 56 rfl ?_
          refine x_bipush dX12_adviceGoes_56 kb_100 58 rfl ?_
          refine x_isub dX12_adviceGoes_58 59 rfl ?_
          refine x_iload_n dX12_adviceGoes_59 rfl 60 rfl ?_
          refine kX12_heardAs dX12_adviceGoes_60 63 rfl hk_l0 kw7_138 (Nat.le_of_ble_eq_true rfl) (Nat.le_of_ble_eq_true rfl) h (fun r2 M1 h => ?_)
          refine x_istore_n dX12_adviceGoes_63 (Nat.le_of_ble_eq_true rfl) [(0, .ref l0), (1, .int l1), (2, .int r2)] rfl 64 rfl ?_
          refine x_aload_n dX12_adviceGoes_64 rfl 65 rfl ?_
          refine gf12_1 dX12_adviceGoes_65 68 rfl hk_l0 kw5_160 ?_
          refine x_bipush dX12_adviceGoes_68 kb_83 70 rfl ?_
          refine x_iload_n dX12_adviceGoes_70 rfl 71 rfl ?_
          refine x_iadd dX12_adviceGoes_71 72 rfl ?_
          refine x_iload_n dX12_adviceGoes_72 rfl 73 rfl ?_
          refine x_bipush dX12_adviceGoes_73 kb_100 75 rfl ?_
          refine x_iadd dX12_adviceGoes_75 76 rfl ?_
          obtain ⟨hin, h⟩ := h
          refine x_iastore dX12_adviceGoes_76 (ly12_1 hk_l0) hin 77 rfl (x_mem (fun M3 hM3 => ?_))
          have h := h M3 hM3
          refine x_aload_n dX12_adviceGoes_77 rfl 78 rfl ?_
          refine gf12_1 dX12_adviceGoes_78 81 rfl hk_l0 kw5_160 ?_
          refine x_bipush dX12_adviceGoes_81 kb_83 83 rfl ?_
          refine x_iload_n dX12_adviceGoes_83 rfl 84 rfl ?_
          refine x_iadd dX12_adviceGoes_84 85 rfl ?_
          refine x_iconst dX12_adviceGoes_85 kc_1 86 rfl ?_
          refine x_iadd dX12_adviceGoes_86 87 rfl ?_
          refine x_iconst dX12_adviceGoes_87 kc_0 88 rfl ?_
          obtain ⟨hin, h⟩ := h
          refine x_iastore dX12_adviceGoes_88 (ly12_1 hk_l0) hin 89 rfl (x_mem (fun M4 hM4 => ?_))
          have h := h M4 hM4
          refine x_aload_n dX12_adviceGoes_89 rfl 90 rfl ?_
          refine x_iconst dX12_adviceGoes_90 kc_4 91 rfl ?_
          refine x_iload_n dX12_adviceGoes_91 rfl 92 rfl ?_
          refine x_iload_n dX12_adviceGoes_92 rfl 93 rfl ?_
          refine kX12_notes dX12_adviceGoes_93 96 rfl hk_l0 kw6_102 (Nat.le_of_ble_eq_true rfl) (Nat.le_of_ble_eq_true rfl) h (fun M5 h => ?_)
          refine x_iinc dX12_adviceGoes_96 rfl (congrArg (l1 + ·) kc_1) (Nat.le_of_ble_eq_true rfl) [(0, .ref l0), (1, .int (l1 + 1)), (2, .int r2)] rfl 99 rfl ?_
          refine x_goto dX12_adviceGoes_99 17 rfl ?_
          refine x_weak [(0, .ref l0), (1, .int (l1 + 1))] [0, 1] rfl ?_
          exact hB17 _ _ h
        · have h := h.2 hc
          refine x_goto dX12_adviceGoes_41 96 rfl ?_
          refine x_iinc dX12_adviceGoes_96 rfl (congrArg (l1 + ·) kc_1) (Nat.le_of_ble_eq_true rfl) [(0, .ref l0), (1, .int (l1 + 1))] rfl 99 rfl ?_
          refine x_goto dX12_adviceGoes_99 17 rfl ?_
          exact hB17 _ _ h
  exact hB17 n l1 M h
def FX12_adviceGoes (Q : Mem → Prop) (l0 : Nat) (M : Mem) : Prop :=
  (((M l0 6) ≤ 0 → NX12_adviceGoes_17 Q l0 0 M) ∧ (¬ (M l0 6) ≤ 0 → ∀ M6 : Mem, M6 = xu M (l0 + 1) (83) 0 → NX12_adviceGoes_17 Q l0 0 M6))
theorem eX12_adviceGoes {Q : Mem → Prop} {l0 : Nat} {M : Mem} (hk_l0 : SHk l0 = 12) (h : FX12_adviceGoes Q l0 M) : xX RX12 cX12_adviceGoes 3 none 7 0 [(0, .ref l0)] [] M (xQv Q) := by
  unfold FX12_adviceGoes at h
  refine x_aload_n dX12_adviceGoes_0 rfl 1 rfl ?_
  refine gf12_6 dX12_adviceGoes_1 4 rfl hk_l0 kw5_165 ?_
  refine x_if_le dX12_adviceGoes_4 15 7 rfl rfl (fun hc => ?_) (fun hc => ?_)
  · have h := h.1 hc
    refine x_iconst dX12_adviceGoes_15 kc_0 16 rfl ?_
    refine x_istore_n dX12_adviceGoes_16 (Nat.le_of_ble_eq_true rfl) [(0, .ref l0), (1, .int 0)] rfl 17 rfl ?_
    exact nX12_adviceGoes_17 hk_l0 h
  · have h := h.2 hc
    refine x_aload_n dX12_adviceGoes_7 rfl 8 rfl ?_
    refine gf12_1 dX12_adviceGoes_8 11 rfl hk_l0 kw5_160 ?_
    refine x_bipush dX12_adviceGoes_11 kb_83 13 rfl ?_
    refine x_iconst dX12_adviceGoes_13 kc_0 14 rfl ?_
    refine x_iastore dX12_adviceGoes_14 (ly12_1 hk_l0) (by unfold vp_in; decide) 15 rfl (x_mem (fun M6 hM6 => ?_))
    have h := h M6 hM6
    refine x_iconst dX12_adviceGoes_15 kc_0 16 rfl ?_
    refine x_istore_n dX12_adviceGoes_16 (Nat.le_of_ble_eq_true rfl) [(0, .ref l0), (1, .int 0)] rfl 17 rfl ?_
    exact nX12_adviceGoes_17 hk_l0 h
theorem cX12_adviceGoes_ {Q : Mem → Prop} {l0 : Nat} {M : Mem} (hk_l0 : SHk l0 = 12) (h : FX12_adviceGoes Q l0 M) : xM yX12_adviceGoes cX12_adviceGoes 3 none 7 [.ref l0] M (xQv Q) := xM_of (by decide +kernel) (Nat.le_of_ble_eq_true rfl) (eX12_adviceGoes hk_l0 h)
theorem kX12_adviceGoes {own : String} {cc : ByteArray} {nL : Nat} {rt : Option FieldType} {d pc ix : Nat} {L : List (Nat × Value)} {st : List Value} {M : Mem} {Rt : xGt → Array Value → State → Outcome → State → Prop} {Q : Mem → Prop} {l0 : Nat} (hd : decode cc pc = .ok (.invokevirtual ix, 3)) (q : Nat) (hq : pc + 3 = q) (hk_l0 : SHk l0 = 12) (w1 : Cond.methodLink own ix yX12_adviceGoes ∈ xTs) (hr : 7 < d) (hst : (st.map fun v => v.category).sum ≤ 8) (h : FX12_adviceGoes Q l0 M) (k : ∀ (N : Mem), Q N → xX own cc nL rt d q L st N Rt) : xX own cc nL rt d pc L (.ref l0 :: st) M Rt :=
  x_callV_v (n := 0) (As := []) hd q hq hk_l0 (by decide) rfl rfl w1 kw7_136 ks7_2 kw1_14 kw7_137 (by decide +kernel) rfl hr (by decide) hst _ rfl (cX12_adviceGoes_ hk_l0 h) k
def FX12_isEnding (Q : Bool → Mem → Prop) (l0 : Nat) (l1 : Int32) (M : Mem) : Prop :=
  FX12_diesOf (fun (r2 : Int32) (M1 : Mem) => (((M1 l0 5) = 0 → ((r2 ≤ 0 → Q false M1) ∧ (¬ r2 ≤ 0 → FX12_draw (fun (r4 : Int32) (M3 : Mem) => ((r2 ≤ r4 → Q false M3) ∧ (¬ r2 ≤ r4 → Q true M3))) l0 1000 M1))) ∧ (¬ (M1 l0 5) = 0 → (((2 * r2) < 1000 → Q false M1) ∧ (¬ (2 * r2) < 1000 → Q true M1))))) l0 l1 M
theorem eX12_isEnding {Q : Bool → Mem → Prop} {l0 : Nat} {l1 : Int32} {M : Mem} (hk_l0 : SHk l0 = 12) (h : FX12_isEnding Q l0 l1 M) : xX RX12 cX12_isEnding 3 (some .boolean) 6 0 [(0, .ref l0), (1, .int l1)] [] M (xQb Q) := by
  unfold FX12_isEnding at h
  refine x_aload_n dX12_isEnding_0 rfl 1 rfl ?_
  refine x_iload_n dX12_isEnding_1 rfl 2 rfl ?_
  refine kX12_diesOf dX12_isEnding_2 5 rfl hk_l0 kw7_154 (Nat.le_of_ble_eq_true rfl) (Nat.le_of_ble_eq_true rfl) h (fun r2 M1 h => ?_)
  refine x_istore_n dX12_isEnding_5 (Nat.le_of_ble_eq_true rfl) [(0, .ref l0), (1, .int l1), (2, .int r2)] rfl 6 rfl ?_
  refine x_aload_n dX12_isEnding_6 rfl 7 rfl ?_
  refine gf12_5 dX12_isEnding_7 10 rfl hk_l0 kw5_164 ?_
  refine x_if_eq dX12_isEnding_10 28 13 rfl rfl (fun hc => ?_) (fun hc => ?_)
  · have h := h.1 hc
    refine x_iload_n dX12_isEnding_28 rfl 29 rfl ?_
    refine x_if_le dX12_isEnding_29 47 32 rfl rfl (fun hc => ?_) (fun hc => ?_)
    · have h := h.1 hc
      refine x_iconst dX12_isEnding_47 kc_0 48 rfl ?_
      exact x_zret (z := false) dX12_isEnding_48 h
    · have h := h.2 hc
      refine x_aload_n dX12_isEnding_32 rfl 33 rfl ?_
      refine x_sipush dX12_isEnding_33 kh_1000 36 rfl ?_
      refine kX12_draw dX12_isEnding_36 39 rfl hk_l0 kw7_158 (Nat.le_of_ble_eq_true rfl) (Nat.le_of_ble_eq_true rfl) h (fun r4 M3 h => ?_)
      refine x_iload_n dX12_isEnding_39 rfl 40 rfl ?_
      refine x_icmp_ge dX12_isEnding_40 47 43 rfl rfl (fun hc => ?_) (fun hc => ?_)
      · have h := h.1 hc
        refine x_iconst dX12_isEnding_47 kc_0 48 rfl ?_
        exact x_zret (z := false) dX12_isEnding_48 h
      · have h := h.2 hc
        refine x_iconst dX12_isEnding_43 kc_1 44 rfl ?_
        refine x_goto dX12_isEnding_44 48 rfl ?_
        exact x_zret (z := true) dX12_isEnding_48 h
  · have h := h.2 hc
    refine x_iconst dX12_isEnding_13 kc_2 14 rfl ?_
    refine x_iload_n dX12_isEnding_14 rfl 15 rfl ?_
    refine x_imul dX12_isEnding_15 16 rfl ?_
    refine x_sipush dX12_isEnding_16 kh_1000 19 rfl ?_
    refine x_icmp_lt dX12_isEnding_19 26 22 rfl rfl (fun hc => ?_) (fun hc => ?_)
    · have h := h.1 hc
      refine x_iconst dX12_isEnding_26 kc_0 27 rfl ?_
      exact x_zret (z := false) dX12_isEnding_27 h
    · have h := h.2 hc
      refine x_iconst dX12_isEnding_22 kc_1 23 rfl ?_
      refine x_goto dX12_isEnding_23 27 rfl ?_
      exact x_zret (z := true) dX12_isEnding_27 h
theorem cX12_isEnding_ {Q : Bool → Mem → Prop} {l0 : Nat} {l1 : Int32} {M : Mem} (hk_l0 : SHk l0 = 12) (h : FX12_isEnding Q l0 l1 M) : xM yX12_isEnding cX12_isEnding 3 (some .boolean) 6 [.ref l0, .int l1] M (xQb Q) := xM_of (by decide +kernel) (Nat.le_of_ble_eq_true rfl) (eX12_isEnding hk_l0 h)
theorem kX12_isEnding {own : String} {cc : ByteArray} {nL : Nat} {rt : Option FieldType} {d pc ix : Nat} {L : List (Nat × Value)} {st : List Value} {M : Mem} {Rt : xGt → Array Value → State → Outcome → State → Prop} {Q : Bool → Mem → Prop} {l0 : Nat} {l1 : Int32} (hd : decode cc pc = .ok (.invokevirtual ix, 3)) (q : Nat) (hq : pc + 3 = q) (hk_l0 : SHk l0 = 12) (w1 : Cond.methodLink own ix yX12_isEnding ∈ xTs) (hr : 6 < d) (hst : (st.map fun v => v.category).sum ≤ 8) (h : FX12_isEnding Q l0 l1 M) (k : ∀ (r : Bool) (N : Mem), Q r N → xX own cc nL rt d q L (.int (bI r) :: st) N Rt) : xX own cc nL rt d pc L (.int l1 :: .ref l0 :: st) M Rt :=
  x_callV_b (n := 1) (As := [.int l1]) hd q hq hk_l0 (by decide) rfl rfl w1 kw7_152 ks7_6 kw1_14 kw7_153 (by decide +kernel) rfl hr (by decide) hst _ rfl (cX12_isEnding_ hk_l0 h) k
def NX12_dies_43 (Q : Mem → Prop) (l0 : Nat) (l1 : Int32) (M : Mem) : Prop :=
  vp_in (7 + l1) 107 ∧ FX12_notes (fun (M1 : Mem) => Q M1) l0 1 l1 (M (l0 + 1) (ix (7 + l1))) M
theorem nX12_dies_43 {Q : Mem → Prop} {l0 : Nat} {l1 : Int32} {M : Mem} (hk_l0 : SHk l0 = 12) (h : NX12_dies_43 Q l0 l1 M) : xX RX12 cX12_dies 3 none 3 43 [(0, .ref l0), (1, .int l1)] [] M (xQv Q) := by
  unfold NX12_dies_43 at h
  refine x_aload_n dX12_dies_43 rfl 44 rfl ?_
  refine x_iconst dX12_dies_44 kc_1 45 rfl ?_
  refine x_iload_n dX12_dies_45 rfl 46 rfl ?_
  refine x_aload_n dX12_dies_46 rfl 47 rfl ?_
  refine gf12_1 dX12_dies_47 50 rfl hk_l0 kw5_160 ?_
  refine x_bipush dX12_dies_50 kb_7 52 rfl ?_
  refine x_iload_n dX12_dies_52 rfl 53 rfl ?_
  refine x_iadd dX12_dies_53 54 rfl ?_
  obtain ⟨hin, h⟩ := h
  refine x_iaload dX12_dies_54 (ly12_1 hk_l0) hin 55 rfl ?_
  refine kX12_notes dX12_dies_55 58 rfl hk_l0 kw6_102 (Nat.le_of_ble_eq_true rfl) (Nat.le_of_ble_eq_true rfl) h (fun M1 h => ?_)
  exact x_vret dX12_dies_58 h
def FX12_dies (Q : Mem → Prop) (l0 : Nat) (l1 : Int32) (M : Mem) : Prop :=
  vp_in (49 + l1) 107 ∧ ∀ M2 : Mem, M2 = xu M (l0 + 1) (ix (49 + l1)) 1 → FX12_pillarOf (fun (r3 : Int32) => ((r3 = (-1) → FX12_placeOf (fun (r4 : Int32) => FX12_leavesGround (fun (M5 : Mem) => NX12_dies_43 Q l0 l1 M5) l0 r4 M2) l0 l1 M2) ∧ (¬ r3 = (-1) → vp_in (73 + r3) 107 ∧ ∀ M6 : Mem, M6 = xu M2 (l0 + 1) (ix (73 + r3)) 0 → NX12_dies_43 Q l0 l1 M6))) l0 l1 M2
theorem eX12_dies {Q : Mem → Prop} {l0 : Nat} {l1 : Int32} {M : Mem} (hk_l0 : SHk l0 = 12) (h : FX12_dies Q l0 l1 M) : xX RX12 cX12_dies 3 none 3 0 [(0, .ref l0), (1, .int l1)] [] M (xQv Q) := by
  unfold FX12_dies at h
  refine x_aload_n dX12_dies_0 rfl 1 rfl ?_
  refine gf12_1 dX12_dies_1 4 rfl hk_l0 kw5_160 ?_
  refine x_bipush dX12_dies_4 kb_49 6 rfl ?_
  refine x_iload_n dX12_dies_6 rfl 7 rfl ?_
  refine x_iadd dX12_dies_7 8 rfl ?_
  refine x_iconst dX12_dies_8 kc_1 9 rfl ?_
  obtain ⟨hin, h⟩ := h
  refine x_iastore dX12_dies_9 (ly12_1 hk_l0) hin 10 rfl (x_mem (fun M2 hM2 => ?_))
  have h := h M2 hM2
  refine x_aload_n dX12_dies_10 rfl 11 rfl ?_
  refine x_iload_n dX12_dies_11 rfl 12 rfl ?_
  refine kX12_pillarOf dX12_dies_12 15 rfl hk_l0 kw7_46 (Nat.le_of_ble_eq_true rfl) (Nat.le_of_ble_eq_true rfl) h (fun r3 h => ?_)
  refine x_istore_n dX12_dies_15 (Nat.le_of_ble_eq_true rfl) [(0, .ref l0), (1, .int l1), (2, .int r3)] rfl 16 rfl ?_
  refine x_iload_n dX12_dies_16 rfl 17 rfl ?_
  refine x_iconst dX12_dies_17 kc_m1 18 rfl ?_
  refine x_icmp_eq dX12_dies_18 34 21 rfl rfl (fun hc => ?_) (fun hc => ?_)
  · have h := h.1 hc
    refine x_aload_n dX12_dies_34 rfl 35 rfl ?_
    refine x_aload_n dX12_dies_35 rfl 36 rfl ?_
    refine x_iload_n dX12_dies_36 rfl 37 rfl ?_
    refine kX12_placeOf dX12_dies_37 40 rfl hk_l0 kw7_168 (Nat.le_of_ble_eq_true rfl) (Nat.le_of_ble_eq_true rfl) h (fun r4 h => ?_)
    refine kX12_leavesGround dX12_dies_40 43 rfl hk_l0 kw6_98 (Nat.le_of_ble_eq_true rfl) (Nat.le_of_ble_eq_true rfl) h (fun M5 h => ?_)
    refine x_weak [(0, .ref l0), (1, .int l1)] [0, 1] rfl ?_
    exact nX12_dies_43 hk_l0 h
  · have h := h.2 hc
    refine x_aload_n dX12_dies_21 rfl 22 rfl ?_
    refine gf12_1 dX12_dies_22 25 rfl hk_l0 kw5_160 ?_
    refine x_bipush dX12_dies_25 kb_73 27 rfl ?_
    refine x_iload_n dX12_dies_27 rfl 28 rfl ?_
    refine x_iadd dX12_dies_28 29 rfl ?_
    refine x_iconst dX12_dies_29 kc_0 30 rfl ?_
    obtain ⟨hin, h⟩ := h
    refine x_iastore dX12_dies_30 (ly12_1 hk_l0) hin 31 rfl (x_mem (fun M6 hM6 => ?_))
    have h := h M6 hM6
    refine x_goto dX12_dies_31 43 rfl ?_
    refine x_weak [(0, .ref l0), (1, .int l1)] [0, 1] rfl ?_
    exact nX12_dies_43 hk_l0 h
theorem cX12_dies_ {Q : Mem → Prop} {l0 : Nat} {l1 : Int32} {M : Mem} (hk_l0 : SHk l0 = 12) (h : FX12_dies Q l0 l1 M) : xM yX12_dies cX12_dies 3 none 3 [.ref l0, .int l1] M (xQv Q) := xM_of (by decide +kernel) (Nat.le_of_ble_eq_true rfl) (eX12_dies hk_l0 h)
theorem kX12_dies {own : String} {cc : ByteArray} {nL : Nat} {rt : Option FieldType} {d pc ix : Nat} {L : List (Nat × Value)} {st : List Value} {M : Mem} {Rt : xGt → Array Value → State → Outcome → State → Prop} {Q : Mem → Prop} {l0 : Nat} {l1 : Int32} (hd : decode cc pc = .ok (.invokevirtual ix, 3)) (q : Nat) (hq : pc + 3 = q) (hk_l0 : SHk l0 = 12) (w1 : Cond.methodLink own ix yX12_dies ∈ xTs) (hr : 3 < d) (hst : (st.map fun v => v.category).sum ≤ 8) (h : FX12_dies Q l0 l1 M) (k : ∀ (N : Mem), Q N → xX own cc nL rt d q L st N Rt) : xX own cc nL rt d pc L (.int l1 :: .ref l0 :: st) M Rt :=
  x_callV_v (n := 1) (As := [.int l1]) hd q hq hk_l0 (by decide) rfl rfl w1 kw7_166 ks7_9 kw1_14 kw7_167 (by decide +kernel) rfl hr (by decide) hst _ rfl (cX12_dies_ hk_l0 h) k
def lbX12_skyOf_4 (Q : Int32 → Prop) (l0 : Nat) (l1 : Int32) (M : Mem) (B4 : Int32 → Int32 → Prop) (l2 : Int32) (l3 : Int32) : Prop :=
  (((M l0 33) ≤ l3 → Q l2) ∧ (¬ (M l0 33) ≤ l3 → vp_in (2 * l3) 64 ∧ ((¬ (M (l0 + 16) (ix (2 * l3))) = l1 → B4 l2 (l3 + 1)) ∧ ((M (l0 + 16) (ix (2 * l3))) = l1 → vp_in ((2 * l3) + 1) 64 ∧ ∀ y1 : Int32, y1 = M (l0 + 16) (ix ((2 * l3) + 1)) → B4 y1 (l3 + 1)))))
def NX12_skyOf_4 (Q : Int32 → Prop) (l0 : Nat) (l1 : Int32) (l2 : Int32) (l3 : Int32) (M : Mem) : Prop := xlp (fun (B : Int32 × Int32 → Prop) a => lbX12_skyOf_4 Q l0 l1 M (fun l2 l3 => B (l2, l3)) a.1 a.2) (l2, l3)
theorem nX12_skyOf_4 {Q : Int32 → Prop} {l0 : Nat} {l1 : Int32} {l2 : Int32} {l3 : Int32} {M : Mem} (hk_l0 : SHk l0 = 12) (h : NX12_skyOf_4 Q l0 l1 l2 l3 M) : xX RX12 cX12_skyOf 4 (some .int) 1 4 [(0, .ref l0), (1, .int l1), (2, .int l2), (3, .int l3)] [] M (xQi (xP M Q)) := by
  obtain ⟨n, h⟩ := h
  have hB4 : ∀ (n : Nat) (l2 : Int32) (l3 : Int32), xlpn (fun (B : Int32 × Int32 → Prop) a => lbX12_skyOf_4 Q l0 l1 M (fun l2 l3 => B (l2, l3)) a.1 a.2) n (l2, l3) → xX RX12 cX12_skyOf 4 (some .int) 1 4 [(0, .ref l0), (1, .int l1), (2, .int l2), (3, .int l3)] [] M (xQi (xP M Q)) := by
    intro n
    induction n with
    | zero => intro l2 l3 h; exact False.elim h
    | succ n ih =>
      intro l2 l3 h
      have hB4 := ih
      have h : lbX12_skyOf_4 Q l0 l1 M (fun l2 l3 => xlpn (fun (B : Int32 × Int32 → Prop) a => lbX12_skyOf_4 Q l0 l1 M (fun l2 l3 => B (l2, l3)) a.1 a.2) n (l2, l3)) l2 l3 := h
      unfold lbX12_skyOf_4 at h
      refine x_iload_n dX12_skyOf_4 rfl 5 rfl ?_
      refine x_aload_n dX12_skyOf_5 rfl 6 rfl ?_
      refine gf12_33 dX12_skyOf_6 9 rfl hk_l0 kw5_192 ?_
      refine x_icmp_ge dX12_skyOf_9 41 12 rfl rfl (fun hc => ?_) (fun hc => ?_)
      · have h := h.1 hc
        refine x_iload_n dX12_skyOf_41 rfl 42 rfl ?_
        exact x_iret dX12_skyOf_42 ⟨rfl, h⟩
      · have h := h.2 hc
        refine x_aload_n dX12_skyOf_12 rfl 13 rfl ?_
        refine gf12_34 dX12_skyOf_13 16 rfl hk_l0 kw5_193 ?_
        refine x_iconst dX12_skyOf_16 kc_2 17 rfl ?_
        refine x_iload_n dX12_skyOf_17 rfl 18 rfl ?_
        refine x_imul dX12_skyOf_18 19 rfl ?_
        obtain ⟨hin, h⟩ := h
        refine x_iaload dX12_skyOf_19 (ly12_34 hk_l0) hin 20 rfl ?_
        refine x_iload_n dX12_skyOf_20 rfl 21 rfl ?_
        refine x_icmp_ne dX12_skyOf_21 35 24 rfl rfl (fun hc => ?_) (fun hc => ?_)
        · have h := h.1 hc
          refine x_iinc dX12_skyOf_35 rfl (congrArg (l3 + ·) kc_1) (Nat.le_of_ble_eq_true rfl) [(0, .ref l0), (1, .int l1), (2, .int l2), (3, .int (l3 + 1))] rfl 38 rfl ?_
          refine x_goto dX12_skyOf_38 4 rfl ?_
          exact hB4 _ _ h
        · have h := h.2 hc
          refine x_aload_n dX12_skyOf_24 rfl 25 rfl ?_
          refine gf12_34 dX12_skyOf_25 28 rfl hk_l0 kw5_193 ?_
          refine x_iconst dX12_skyOf_28 kc_2 29 rfl ?_
          refine x_iload_n dX12_skyOf_29 rfl 30 rfl ?_
          refine x_imul dX12_skyOf_30 31 rfl ?_
          refine x_iconst dX12_skyOf_31 kc_1 32 rfl ?_
          refine x_iadd dX12_skyOf_32 33 rfl ?_
          obtain ⟨hin, h⟩ := h
          refine x_iaload dX12_skyOf_33 (ly12_34 hk_l0) hin 34 rfl ?_
          refine x_top (fun y1 hy1 => ?_)
          have h := h y1 hy1
          refine x_istore_n dX12_skyOf_34 (Nat.le_of_ble_eq_true rfl) [(0, .ref l0), (1, .int l1), (2, .int y1), (3, .int l3)] rfl 35 rfl ?_
          refine x_iinc dX12_skyOf_35 rfl (congrArg (l3 + ·) kc_1) (Nat.le_of_ble_eq_true rfl) [(0, .ref l0), (1, .int l1), (2, .int y1), (3, .int (l3 + 1))] rfl 38 rfl ?_
          refine x_goto dX12_skyOf_38 4 rfl ?_
          exact hB4 _ _ h
  exact hB4 n l2 l3 h
def FX12_skyOf (Q : Int32 → Prop) (l0 : Nat) (l1 : Int32) (M : Mem) : Prop :=
  NX12_skyOf_4 Q l0 l1 (-1) 0 M
theorem eX12_skyOf {Q : Int32 → Prop} {l0 : Nat} {l1 : Int32} {M : Mem} (hk_l0 : SHk l0 = 12) (h : FX12_skyOf Q l0 l1 M) : xX RX12 cX12_skyOf 4 (some .int) 1 0 [(0, .ref l0), (1, .int l1)] [] M (xQi (xP M Q)) := by
  unfold FX12_skyOf at h
  refine x_iconst dX12_skyOf_0 kc_m1 1 rfl ?_
  refine x_istore_n dX12_skyOf_1 (Nat.le_of_ble_eq_true rfl) [(0, .ref l0), (1, .int l1), (2, .int (-1))] rfl 2 rfl ?_
  refine x_iconst dX12_skyOf_2 kc_0 3 rfl ?_
  refine x_istore_n dX12_skyOf_3 (Nat.le_of_ble_eq_true rfl) [(0, .ref l0), (1, .int l1), (2, .int (-1)), (3, .int 0)] rfl 4 rfl ?_
  exact nX12_skyOf_4 hk_l0 h
theorem cX12_skyOf_ {Q : Int32 → Prop} {l0 : Nat} {l1 : Int32} {M : Mem} (hk_l0 : SHk l0 = 12) (h : FX12_skyOf Q l0 l1 M) : xM yX12_skyOf cX12_skyOf 4 (some .int) 1 [.ref l0, .int l1] M (xQi (xP M Q)) := xM_of (by decide +kernel) (Nat.le_of_ble_eq_true rfl) (eX12_skyOf hk_l0 h)
theorem kX12_skyOf {own : String} {cc : ByteArray} {nL : Nat} {rt : Option FieldType} {d pc ix : Nat} {L : List (Nat × Value)} {st : List Value} {M : Mem} {Rt : xGt → Array Value → State → Outcome → State → Prop} {Q : Int32 → Prop} {l0 : Nat} {l1 : Int32} (hd : decode cc pc = .ok (.invokevirtual ix, 3)) (q : Nat) (hq : pc + 3 = q) (hk_l0 : SHk l0 = 12) (w1 : Cond.methodLink own ix yX12_skyOf ∈ xTs) (hr : 1 < d) (hst : (st.map fun v => v.category).sum ≤ 8) (h : FX12_skyOf Q l0 l1 M) (k : ∀ (r : Int32), Q r → xX own cc nL rt d q L (.int r :: st) M Rt) : xX own cc nL rt d pc L (.int l1 :: .ref l0 :: st) M Rt :=
  x_callV_i (n := 1) (As := [.int l1]) hd q hq hk_l0 (by decide) rfl rfl w1 kw7_84 ks6_5 kw1_14 kw7_85 (by decide +kernel) rfl hr (by decide) hst _ rfl (cX12_skyOf_ hk_l0 h) (fun r N hN => by obtain ⟨rfl, hN⟩ := hN; exact k r hN)
def lbX12_goesBy_141 (Q : Int32 → Mem → Prop) (l0 : Nat) (B141 : Int32 → Int32 → Mem → Prop) (l1 : Int32) (l2 : Int32) (M : Mem) : Prop :=
  (((M l0 7) ≤ l2 → FX12_allClimb (fun (M1 : Mem) => ∀ M2 : Mem, M2 = xu M1 (l0 + 1) (0) ((M1 (l0 + 1) 0) + 1) → Q l1 M2) l0 M) ∧ (¬ (M l0 7) ≤ l2 → vp_in (49 + l2) 107 ∧ ((¬ (M (l0 + 1) (ix (49 + l2))) = 1 → vp_in (7 + l2) 107 ∧ FX12_lesser (fun (r3 : Int32) => vp_in (7 + l2) 107 ∧ ∀ M4 : Mem, M4 = xu M (l0 + 1) (ix (7 + l2)) r3 → FX12_isEnding (fun (r6 : Bool) (M5 : Mem) => ((r6 = true → FX12_dies (fun (M7 : Mem) => B141 (l1 + 1) (l2 + 1) M7) l0 l2 M5) ∧ (r6 = false → B141 l1 (l2 + 1) M5))) l0 l2 M4) l0 120 ((M (l0 + 1) (ix (7 + l2))) + 1) M) ∧ ((M (l0 + 1) (ix (49 + l2))) = 1 → B141 l1 (l2 + 1) M))))
def NX12_goesBy_141 (Q : Int32 → Mem → Prop) (l0 : Nat) (l1 : Int32) (l2 : Int32) (M : Mem) : Prop := xlp (fun (B : Int32 × Int32 × Mem → Prop) a => lbX12_goesBy_141 Q l0 (fun l1 l2 M => B (l1, l2, M)) a.1 a.2.1 a.2.2) (l1, l2, M)
theorem nX12_goesBy_141 {Q : Int32 → Mem → Prop} {l0 : Nat} {l1 : Int32} {l2 : Int32} {M : Mem} (hk_l0 : SHk l0 = 12) (h : NX12_goesBy_141 Q l0 l1 l2 M) : xX RX12 cX12_goesBy 3 (some .int) 8 141 [(0, .ref l0), (1, .int l1), (2, .int l2)] [] M (xQi Q) := by
  obtain ⟨n, h⟩ := h
  have hB141 : ∀ (n : Nat) (l1 : Int32) (l2 : Int32) (M : Mem), xlpn (fun (B : Int32 × Int32 × Mem → Prop) a => lbX12_goesBy_141 Q l0 (fun l1 l2 M => B (l1, l2, M)) a.1 a.2.1 a.2.2) n (l1, l2, M) → xX RX12 cX12_goesBy 3 (some .int) 8 141 [(0, .ref l0), (1, .int l1), (2, .int l2)] [] M (xQi Q) := by
    intro n
    induction n with
    | zero => intro l1 l2 M h; exact False.elim h
    | succ n ih =>
      intro l1 l2 M h
      have hB141 := ih
      have h : lbX12_goesBy_141 Q l0 (fun l1 l2 M => xlpn (fun (B : Int32 × Int32 × Mem → Prop) a => lbX12_goesBy_141 Q l0 (fun l1 l2 M => B (l1, l2, M)) a.1 a.2.1 a.2.2) n (l1, l2, M)) l1 l2 M := h
      unfold lbX12_goesBy_141 at h
      refine x_iload_n dX12_goesBy_141 rfl 142 rfl ?_
      refine x_aload_n dX12_goesBy_142 rfl 143 rfl ?_
      refine gf12_7 dX12_goesBy_143 146 rfl hk_l0 kw5_166 ?_
      refine x_icmp_ge dX12_goesBy_146 217 149 rfl rfl (fun hc => ?_) (fun hc => ?_)
      · have h := h.1 hc
        refine x_aload_n dX12_goesBy_217 rfl 218 rfl ?_
        refine kX12_allClimb dX12_goesBy_218 221 rfl hk_l0 kw6_86 (Nat.le_of_ble_eq_true rfl) (Nat.le_of_ble_eq_true rfl) h (fun M1 h => ?_)
        refine x_aload_n dX12_goesBy_221 rfl 222 rfl ?_
        refine gf12_1 dX12_goesBy_222 225 rfl hk_l0 kw5_160 ?_
        refine x_iconst dX12_goesBy_225 kc_0 226 rfl ?_
        refine x_aload_n dX12_goesBy_226 rfl 227 rfl ?_
        refine gf12_1 dX12_goesBy_227 230 rfl hk_l0 kw5_160 ?_
        refine x_iconst dX12_goesBy_230 kc_0 231 rfl ?_
        refine x_iaload dX12_goesBy_231 (ly12_1 hk_l0) (by unfold vp_in; decide) 232 rfl ?_
        refine x_iconst dX12_goesBy_232 kc_1 233 rfl ?_
        refine x_iadd dX12_goesBy_233 234 rfl ?_
        refine x_iastore dX12_goesBy_234 (ly12_1 hk_l0) (by unfold vp_in; decide) 235 rfl (x_mem (fun M2 hM2 => ?_))
        have h := h M2 hM2
        refine x_iload_n dX12_goesBy_235 rfl 236 rfl ?_
        exact x_iret dX12_goesBy_236 h
      · have h := h.2 hc
        refine x_aload_n dX12_goesBy_149 rfl 150 rfl ?_
        refine gf12_1 dX12_goesBy_150 153 rfl hk_l0 kw5_160 ?_
        refine x_bipush dX12_goesBy_153 kb_49 155 rfl ?_
        refine x_iload_n dX12_goesBy_155 rfl 156 rfl ?_
        refine x_iadd dX12_goesBy_156 157 rfl ?_
        obtain ⟨hin, h⟩ := h
        refine x_iaload dX12_goesBy_157 (ly12_1 hk_l0) hin 158 rfl ?_
        refine x_iconst dX12_goesBy_158 kc_1 159 rfl ?_
        refine x_icmp_ne dX12_goesBy_159 165 162 rfl rfl (fun hc => ?_) (fun hc => ?_)
        · have h := h.1 hc
          refine x_aload_n dX12_goesBy_165 rfl 166 rfl ?_
          refine gf12_1 dX12_goesBy_166 169 rfl hk_l0 kw5_160 ?_
          refine x_bipush dX12_goesBy_169 kb_7 171 rfl ?_
          refine x_iload_n dX12_goesBy_171 rfl 172 rfl ?_
          refine x_iadd dX12_goesBy_172 173 rfl ?_
          refine x_aload_n dX12_goesBy_173 rfl 174 rfl ?_
          refine x_bipush dX12_goesBy_174 kb_120 176 rfl ?_
          refine x_aload_n dX12_goesBy_176 rfl 177 rfl ?_
          refine gf12_1 dX12_goesBy_177 180 rfl hk_l0 kw5_160 ?_
          refine x_bipush dX12_goesBy_180 kb_7 182 rfl ?_
          refine x_iload_n dX12_goesBy_182 rfl 183 rfl ?_
          refine x_iadd dX12_goesBy_183 184 rfl ?_
          obtain ⟨hin, h⟩ := h
          refine x_iaload dX12_goesBy_184 (ly12_1 hk_l0) hin 185 rfl ?_
          refine x_iconst dX12_goesBy_185 kc_1 186 rfl ?_
          refine x_iadd dX12_goesBy_186 187 rfl ?_
          refine kX12_lesser dX12_goesBy_187 190 rfl hk_l0 kw7_62 (Nat.le_of_ble_eq_true rfl) (Nat.le_of_ble_eq_true rfl) h (fun r3 h => ?_)
          obtain ⟨hin, h⟩ := h
          refine x_iastore dX12_goesBy_190 (ly12_1 hk_l0) hin 191 rfl (x_mem (fun M4 hM4 => ?_))
          have h := h M4 hM4
          refine x_aload_n dX12_goesBy_191 rfl 192 rfl ?_
          refine x_iload_n dX12_goesBy_192 rfl 193 rfl ?_
          refine kX12_isEnding dX12_goesBy_193 196 rfl hk_l0 kw7_150 (Nat.le_of_ble_eq_true rfl) (Nat.le_of_ble_eq_true rfl) h (fun r6 M5 h => ?_)
          refine x_if_ne_b dX12_goesBy_196 202 199 rfl rfl (fun hc => ?_) (fun hc => ?_)
          · have h := h.1 hc
            refine x_aload_n dX12_goesBy_202 rfl 203 rfl ?_
            refine x_iload_n dX12_goesBy_203 rfl 204 rfl ?_
            refine kX12_dies dX12_goesBy_204 207 rfl hk_l0 kw7_164 (Nat.le_of_ble_eq_true rfl) (Nat.le_of_ble_eq_true rfl) h (fun M7 h => ?_)
            refine x_iload_n dX12_goesBy_207 rfl 208 rfl ?_
            refine x_iconst dX12_goesBy_208 kc_1 209 rfl ?_
            refine x_iadd dX12_goesBy_209 210 rfl ?_
            refine x_istore_n dX12_goesBy_210 (Nat.le_of_ble_eq_true rfl) [(0, .ref l0), (1, .int (l1 + 1)), (2, .int l2)] rfl 211 rfl ?_
            refine x_iinc dX12_goesBy_211 rfl (congrArg (l2 + ·) kc_1) (Nat.le_of_ble_eq_true rfl) [(0, .ref l0), (1, .int (l1 + 1)), (2, .int (l2 + 1))] rfl 214 rfl ?_
            refine x_goto dX12_goesBy_214 141 rfl ?_
            exact hB141 _ _ _ h
          · have h := h.2 hc
            refine x_goto dX12_goesBy_199 211 rfl ?_
            refine x_iinc dX12_goesBy_211 rfl (congrArg (l2 + ·) kc_1) (Nat.le_of_ble_eq_true rfl) [(0, .ref l0), (1, .int l1), (2, .int (l2 + 1))] rfl 214 rfl ?_
            refine x_goto dX12_goesBy_214 141 rfl ?_
            exact hB141 _ _ _ h
        · have h := h.2 hc
          refine x_goto dX12_goesBy_162 211 rfl ?_
          refine x_iinc dX12_goesBy_211 rfl (congrArg (l2 + ·) kc_1) (Nat.le_of_ble_eq_true rfl) [(0, .ref l0), (1, .int l1), (2, .int (l2 + 1))] rfl 214 rfl ?_
          refine x_goto dX12_goesBy_214 141 rfl ?_
          exact hB141 _ _ _ h
  exact hB141 n l1 l2 M h
def lbX12_goesBy_80 (Q : Int32 → Mem → Prop) (l0 : Nat) (B80 : Int32 → Mem → Prop) (l1 : Int32) (M : Mem) : Prop :=
  (((M l0 6) ≤ l1 → NX12_goesBy_141 Q l0 0 0 M) ∧ (¬ (M l0 6) ≤ l1 → FX12_sitterOf (fun (r8 : Int32) => ((r8 = (-1) → B80 (l1 + 1) M) ∧ (¬ r8 = (-1) → vp_in (21 + r8) 107 ∧ FX12_leansOf (fun (r10 : Int32) (M9 : Mem) => FX12_held (fun (r11 : Int32) => vp_in (21 + r8) 107 ∧ ∀ M12 : Mem, M12 = xu M9 (l0 + 1) (ix (21 + r8)) r11 → B80 (l1 + 1) M12) l0 ((M (l0 + 1) (ix (21 + r8))) + r10) (-99) 99 M9) l0 r8 M))) l0 l1 M))
def NX12_goesBy_80 (Q : Int32 → Mem → Prop) (l0 : Nat) (l1 : Int32) (M : Mem) : Prop := xlp (fun (B : Int32 × Mem → Prop) a => lbX12_goesBy_80 Q l0 (fun l1 M => B (l1, M)) a.1 a.2) (l1, M)
theorem nX12_goesBy_80 {Q : Int32 → Mem → Prop} {l0 : Nat} {l1 : Int32} {M : Mem} (hk_l0 : SHk l0 = 12) (h : NX12_goesBy_80 Q l0 l1 M) : xX RX12 cX12_goesBy 3 (some .int) 8 80 [(0, .ref l0), (1, .int l1)] [] M (xQi Q) := by
  obtain ⟨n, h⟩ := h
  have hB80 : ∀ (n : Nat) (l1 : Int32) (M : Mem), xlpn (fun (B : Int32 × Mem → Prop) a => lbX12_goesBy_80 Q l0 (fun l1 M => B (l1, M)) a.1 a.2) n (l1, M) → xX RX12 cX12_goesBy 3 (some .int) 8 80 [(0, .ref l0), (1, .int l1)] [] M (xQi Q) := by
    intro n
    induction n with
    | zero => intro l1 M h; exact False.elim h
    | succ n ih =>
      intro l1 M h
      have hB80 := ih
      have h : lbX12_goesBy_80 Q l0 (fun l1 M => xlpn (fun (B : Int32 × Mem → Prop) a => lbX12_goesBy_80 Q l0 (fun l1 M => B (l1, M)) a.1 a.2) n (l1, M)) l1 M := h
      unfold lbX12_goesBy_80 at h
      refine x_iload_n dX12_goesBy_80 rfl 81 rfl ?_
      refine x_aload_n dX12_goesBy_81 rfl 82 rfl ?_
      refine gf12_6 dX12_goesBy_82 85 rfl hk_l0 kw5_165 ?_
      refine x_icmp_ge dX12_goesBy_85 137 88 rfl rfl (fun hc => ?_) (fun hc => ?_)
      · have h := h.1 hc
        refine x_iconst dX12_goesBy_137 kc_0 138 rfl ?_
        refine x_istore_n dX12_goesBy_138 (Nat.le_of_ble_eq_true rfl) [(0, .ref l0), (1, .int 0)] rfl 139 rfl ?_
        refine x_iconst dX12_goesBy_139 kc_0 140 rfl ?_
        refine x_istore_n dX12_goesBy_140 (Nat.le_of_ble_eq_true rfl) [(0, .ref l0), (1, .int 0), (2, .int 0)] rfl 141 rfl ?_
        exact nX12_goesBy_141 hk_l0 h
      · have h := h.2 hc
        refine x_aload_n dX12_goesBy_88 rfl 89 rfl ?_
        refine x_iload_n dX12_goesBy_89 rfl 90 rfl ?_
        refine kX12_sitterOf dX12_goesBy_90 93 rfl hk_l0 kw6_90 (Nat.le_of_ble_eq_true rfl) (Nat.le_of_ble_eq_true rfl) h (fun r8 h => ?_)
        refine x_istore_n dX12_goesBy_93 (Nat.le_of_ble_eq_true rfl) [(0, .ref l0), (1, .int l1), (2, .int r8)] rfl 94 rfl ?_
        refine x_iload_n dX12_goesBy_94 rfl 95 rfl ?_
        refine x_iconst dX12_goesBy_95 kc_m1 96 rfl ?_
        refine x_icmp_eq dX12_goesBy_96 131 99 rfl rfl (fun hc => ?_) (fun hc => ?_)
        · have h := h.1 hc
          refine x_iinc dX12_goesBy_131 rfl (congrArg (l1 + ·) kc_1) (Nat.le_of_ble_eq_true rfl) [(0, .ref l0), (1, .int (l1 + 1)), (2, .int r8)] rfl 134 rfl ?_
          refine x_goto dX12_goesBy_134 80 rfl ?_
          refine x_weak [(0, .ref l0), (1, .int (l1 + 1))] [0, 1] rfl ?_
          exact hB80 _ _ h
        · have h := h.2 hc
          refine x_aload_n dX12_goesBy_99 rfl 100 rfl ?_
          refine gf12_1 dX12_goesBy_100 103 rfl hk_l0 kw5_160 ?_
          refine x_bipush dX12_goesBy_103 kb_21 105 rfl ?_
          refine x_iload_n dX12_goesBy_105 rfl 106 rfl ?_
          refine x_iadd dX12_goesBy_106 107 rfl ?_
          refine x_aload_n dX12_goesBy_107 rfl 108 rfl ?_
          refine x_aload_n dX12_goesBy_108 rfl 109 rfl ?_
          refine gf12_1 dX12_goesBy_109 112 rfl hk_l0 kw5_160 ?_
          refine x_bipush dX12_goesBy_112 kb_21 114 rfl ?_
          refine x_iload_n dX12_goesBy_114 rfl 115 rfl ?_
          refine x_iadd dX12_goesBy_115 116 rfl ?_
          obtain ⟨hin, h⟩ := h
          refine x_iaload dX12_goesBy_116 (ly12_1 hk_l0) hin 117 rfl ?_
          refine x_aload_n dX12_goesBy_117 rfl 118 rfl ?_
          refine x_iload_n dX12_goesBy_118 rfl 119 rfl ?_
          refine kX12_leansOf dX12_goesBy_119 122 rfl hk_l0 kw7_142 (Nat.le_of_ble_eq_true rfl) (Nat.le_of_ble_eq_true rfl) h (fun r10 M9 h => ?_)
          refine x_iadd dX12_goesBy_122 123 rfl ?_
          refine x_bipush dX12_goesBy_123 kb_m99 125 rfl ?_
          refine x_bipush dX12_goesBy_125 kb_99 127 rfl ?_
          refine kX12_held dX12_goesBy_127 130 rfl hk_l0 kw7_126 (Nat.le_of_ble_eq_true rfl) (Nat.le_of_ble_eq_true rfl) h (fun r11 h => ?_)
          obtain ⟨hin, h⟩ := h
          refine x_iastore dX12_goesBy_130 (ly12_1 hk_l0) hin 131 rfl (x_mem (fun M12 hM12 => ?_))
          have h := h M12 hM12
          refine x_iinc dX12_goesBy_131 rfl (congrArg (l1 + ·) kc_1) (Nat.le_of_ble_eq_true rfl) [(0, .ref l0), (1, .int (l1 + 1)), (2, .int r8)] rfl 134 rfl ?_
          refine x_goto dX12_goesBy_134 80 rfl ?_
          refine x_weak [(0, .ref l0), (1, .int (l1 + 1))] [0, 1] rfl ?_
          exact hB80 _ _ h
  exact hB80 n l1 M h
def NX12_goesBy_70 (Q : Int32 → Mem → Prop) (l0 : Nat) (M : Mem) : Prop :=
  FX12_basketGoes (fun (M13 : Mem) => FX12_adviceGoes (fun (M14 : Mem) => NX12_goesBy_80 Q l0 0 M14) l0 M13) l0 M
theorem nX12_goesBy_70 {Q : Int32 → Mem → Prop} {l0 : Nat} {M : Mem} (hk_l0 : SHk l0 = 12) (h : NX12_goesBy_70 Q l0 M) : xX RX12 cX12_goesBy 3 (some .int) 8 70 [(0, .ref l0)] [] M (xQi Q) := by
  unfold NX12_goesBy_70 at h
  refine x_aload_n dX12_goesBy_70 rfl 71 rfl ?_
  refine kX12_basketGoes dX12_goesBy_71 74 rfl hk_l0 kw7_86 (Nat.le_of_ble_eq_true rfl) (Nat.le_of_ble_eq_true rfl) h (fun M13 h => ?_)
  refine x_aload_n dX12_goesBy_74 rfl 75 rfl ?_
  refine kX12_adviceGoes dX12_goesBy_75 78 rfl hk_l0 kw7_134 (Nat.le_of_ble_eq_true rfl) (Nat.le_of_ble_eq_true rfl) h (fun M14 h => ?_)
  refine x_iconst dX12_goesBy_78 kc_0 79 rfl ?_
  refine x_istore_n dX12_goesBy_79 (Nat.le_of_ble_eq_true rfl) [(0, .ref l0), (1, .int 0)] rfl 80 rfl ?_
  exact nX12_goesBy_80 hk_l0 h
def lbX12_goesBy_2 (Q : Int32 → Mem → Prop) (l0 : Nat) (B2 : Int32 → Mem → Prop) (l1 : Int32) (M : Mem) : Prop :=
  (((M l0 35) ≤ l1 → FX12_skyOf (fun (r15 : Int32) => ((r15 = (-1) → NX12_goesBy_70 Q l0 M) ∧ (¬ r15 = (-1) → FX12_skyOf (fun (r16 : Int32) => ∀ M17 : Mem, M17 = xu M (l0 + 1) (5) r16 → NX12_goesBy_70 Q l0 M17) l0 (M (l0 + 1) 0) M))) l0 (M (l0 + 1) 0) M) ∧ (¬ (M l0 35) ≤ l1 → vp_in (4 * l1) 128 ∧ ((¬ (M (l0 + 17) (ix (4 * l1))) = (M (l0 + 1) 0) → B2 (l1 + 1) M) ∧ ((M (l0 + 17) (ix (4 * l1))) = (M (l0 + 1) 0) → FX12_does (fun (M18 : Mem) => B2 (l1 + 1) M18) l0 (4 * l1) M))))
def NX12_goesBy_2 (Q : Int32 → Mem → Prop) (l0 : Nat) (l1 : Int32) (M : Mem) : Prop := xlp (fun (B : Int32 × Mem → Prop) a => lbX12_goesBy_2 Q l0 (fun l1 M => B (l1, M)) a.1 a.2) (l1, M)
theorem nX12_goesBy_2 {Q : Int32 → Mem → Prop} {l0 : Nat} {l1 : Int32} {M : Mem} (hk_l0 : SHk l0 = 12) (h : NX12_goesBy_2 Q l0 l1 M) : xX RX12 cX12_goesBy 3 (some .int) 8 2 [(0, .ref l0), (1, .int l1)] [] M (xQi Q) := by
  obtain ⟨n, h⟩ := h
  have hB2 : ∀ (n : Nat) (l1 : Int32) (M : Mem), xlpn (fun (B : Int32 × Mem → Prop) a => lbX12_goesBy_2 Q l0 (fun l1 M => B (l1, M)) a.1 a.2) n (l1, M) → xX RX12 cX12_goesBy 3 (some .int) 8 2 [(0, .ref l0), (1, .int l1)] [] M (xQi Q) := by
    intro n
    induction n with
    | zero => intro l1 M h; exact False.elim h
    | succ n ih =>
      intro l1 M h
      have hB2 := ih
      have h : lbX12_goesBy_2 Q l0 (fun l1 M => xlpn (fun (B : Int32 × Mem → Prop) a => lbX12_goesBy_2 Q l0 (fun l1 M => B (l1, M)) a.1 a.2) n (l1, M)) l1 M := h
      unfold lbX12_goesBy_2 at h
      refine x_iload_n dX12_goesBy_2 rfl 3 rfl ?_
      refine x_aload_n dX12_goesBy_3 rfl 4 rfl ?_
      refine gf12_35 dX12_goesBy_4 7 rfl hk_l0 kw5_194 ?_
      refine x_icmp_ge dX12_goesBy_7 40 10 rfl rfl (fun hc => ?_) (fun hc => ?_)
      · have h := h.1 hc
        refine x_aload_n dX12_goesBy_40 rfl 41 rfl ?_
        refine x_aload_n dX12_goesBy_41 rfl 42 rfl ?_
        refine gf12_1 dX12_goesBy_42 45 rfl hk_l0 kw5_160 ?_
        refine x_iconst dX12_goesBy_45 kc_0 46 rfl ?_
        refine x_iaload dX12_goesBy_46 (ly12_1 hk_l0) (by unfold vp_in; decide) 47 rfl ?_
        refine kX12_skyOf dX12_goesBy_47 50 rfl hk_l0 kw7_82 (Nat.le_of_ble_eq_true rfl) (Nat.le_of_ble_eq_true rfl) h (fun r15 h => ?_)
        refine x_iconst dX12_goesBy_50 kc_m1 51 rfl ?_
        refine x_icmp_eq dX12_goesBy_51 70 54 rfl rfl (fun hc => ?_) (fun hc => ?_)
        · have h := h.1 hc
          refine x_weak [(0, .ref l0)] [0] rfl ?_
          exact nX12_goesBy_70 hk_l0 h
        · have h := h.2 hc
          refine x_aload_n dX12_goesBy_54 rfl 55 rfl ?_
          refine gf12_1 dX12_goesBy_55 58 rfl hk_l0 kw5_160 ?_
          refine x_iconst dX12_goesBy_58 kc_5 59 rfl ?_
          refine x_aload_n dX12_goesBy_59 rfl 60 rfl ?_
          refine x_aload_n dX12_goesBy_60 rfl 61 rfl ?_
          refine gf12_1 dX12_goesBy_61 64 rfl hk_l0 kw5_160 ?_
          refine x_iconst dX12_goesBy_64 kc_0 65 rfl ?_
          refine x_iaload dX12_goesBy_65 (ly12_1 hk_l0) (by unfold vp_in; decide) 66 rfl ?_
          refine kX12_skyOf dX12_goesBy_66 69 rfl hk_l0 kw7_82 (Nat.le_of_ble_eq_true rfl) (Nat.le_of_ble_eq_true rfl) h (fun r16 h => ?_)
          refine x_iastore dX12_goesBy_69 (ly12_1 hk_l0) (by unfold vp_in; decide) 70 rfl (x_mem (fun M17 hM17 => ?_))
          have h := h M17 hM17
          refine x_weak [(0, .ref l0)] [0] rfl ?_
          exact nX12_goesBy_70 hk_l0 h
      · have h := h.2 hc
        refine x_aload_n dX12_goesBy_10 rfl 11 rfl ?_
        refine gf12_36 dX12_goesBy_11 14 rfl hk_l0 kw5_195 ?_
        refine x_iconst dX12_goesBy_14 kc_4 15 rfl ?_
        refine x_iload_n dX12_goesBy_15 rfl 16 rfl ?_
        refine x_imul dX12_goesBy_16 17 rfl ?_
        obtain ⟨hin, h⟩ := h
        refine x_iaload dX12_goesBy_17 (ly12_36 hk_l0) hin 18 rfl ?_
        refine x_aload_n dX12_goesBy_18 rfl 19 rfl ?_
        refine gf12_1 dX12_goesBy_19 22 rfl hk_l0 kw5_160 ?_
        refine x_iconst dX12_goesBy_22 kc_0 23 rfl ?_
        refine x_iaload dX12_goesBy_23 (ly12_1 hk_l0) (by unfold vp_in; decide) 24 rfl ?_
        refine x_icmp_ne dX12_goesBy_24 34 27 rfl rfl (fun hc => ?_) (fun hc => ?_)
        · have h := h.1 hc
          refine x_iinc dX12_goesBy_34 rfl (congrArg (l1 + ·) kc_1) (Nat.le_of_ble_eq_true rfl) [(0, .ref l0), (1, .int (l1 + 1))] rfl 37 rfl ?_
          refine x_goto dX12_goesBy_37 2 rfl ?_
          exact hB2 _ _ h
        · have h := h.2 hc
          refine x_aload_n dX12_goesBy_27 rfl 28 rfl ?_
          refine x_iconst dX12_goesBy_28 kc_4 29 rfl ?_
          refine x_iload_n dX12_goesBy_29 rfl 30 rfl ?_
          refine x_imul dX12_goesBy_30 31 rfl ?_
          refine kX12_does dX12_goesBy_31 34 rfl hk_l0 kw7_78 (Nat.le_of_ble_eq_true rfl) (Nat.le_of_ble_eq_true rfl) h (fun M18 h => ?_)
          refine x_iinc dX12_goesBy_34 rfl (congrArg (l1 + ·) kc_1) (Nat.le_of_ble_eq_true rfl) [(0, .ref l0), (1, .int (l1 + 1))] rfl 37 rfl ?_
          refine x_goto dX12_goesBy_37 2 rfl ?_
          exact hB2 _ _ h
  exact hB2 n l1 M h
def FX12_goesBy (Q : Int32 → Mem → Prop) (l0 : Nat) (M : Mem) : Prop :=
  NX12_goesBy_2 Q l0 0 M
theorem eX12_goesBy {Q : Int32 → Mem → Prop} {l0 : Nat} {M : Mem} (hk_l0 : SHk l0 = 12) (h : FX12_goesBy Q l0 M) : xX RX12 cX12_goesBy 3 (some .int) 8 0 [(0, .ref l0)] [] M (xQi Q) := by
  unfold FX12_goesBy at h
  refine x_iconst dX12_goesBy_0 kc_0 1 rfl ?_
  refine x_istore_n dX12_goesBy_1 (Nat.le_of_ble_eq_true rfl) [(0, .ref l0), (1, .int 0)] rfl 2 rfl ?_
  exact nX12_goesBy_2 hk_l0 h
theorem cX12_goesBy_ {Q : Int32 → Mem → Prop} {l0 : Nat} {M : Mem} (hk_l0 : SHk l0 = 12) (h : FX12_goesBy Q l0 M) : xM yX12_goesBy cX12_goesBy 3 (some .int) 8 [.ref l0] M (xQi Q) := xM_of (by decide +kernel) (Nat.le_of_ble_eq_true rfl) (eX12_goesBy hk_l0 h)
theorem kX12_goesBy {own : String} {cc : ByteArray} {nL : Nat} {rt : Option FieldType} {d pc ix : Nat} {L : List (Nat × Value)} {st : List Value} {M : Mem} {Rt : xGt → Array Value → State → Outcome → State → Prop} {Q : Int32 → Mem → Prop} {l0 : Nat} (hd : decode cc pc = .ok (.invokevirtual ix, 3)) (q : Nat) (hq : pc + 3 = q) (hk_l0 : SHk l0 = 12) (w1 : Cond.methodLink own ix yX12_goesBy ∈ xTs) (hr : 8 < d) (hst : (st.map fun v => v.category).sum ≤ 8) (h : FX12_goesBy Q l0 M) (k : ∀ (r : Int32) (N : Mem), Q r N → xX own cc nL rt d q L (.int r :: st) N Rt) : xX own cc nL rt d pc L (.ref l0 :: st) M Rt :=
  x_callV_i (n := 0) (As := []) hd q hq hk_l0 (by decide) rfl rfl w1 kw7_76 ks6_3 kw1_14 kw7_77 (by decide +kernel) rfl hr (by decide) hst _ rfl (cX12_goesBy_ hk_l0 h) k
