def NX12_gives_102 (Q : Int32 → Mem → Prop) (B65 : Int32 → Int32 → Prop) (l0 : Nat) (l1 : Int32) (l2 : Int32) (l3 : Int32) (l4 : Int32) (M : Mem) : Prop :=
  FX12_followsBut (fun (r1 : Int32) => FX12_has (fun (r2 : Bool) => ((r2 = false → B65 l3 (l4 + 1)) ∧ (r2 = true → B65 l4 (l4 + 1)))) l0 r1 l1 M) l0 l4 (-1) M
theorem nX12_gives_102 {Q : Int32 → Mem → Prop} {B65 : Int32 → Int32 → Prop} {l0 : Nat} {l1 : Int32} {l2 : Int32} {l3 : Int32} {l4 : Int32} {M : Mem} (hB65 : ∀ (l3 : Int32) (l4 : Int32), B65 l3 l4 → xX RX12 cX12_gives 5 (some .int) 3 65 [(0, .ref l0), (1, .int l1), (2, .int l2), (3, .int l3), (4, .int l4)] [] M (xQi Q)) (hk_l0 : SHk l0 = 12) (h : NX12_gives_102 Q B65 l0 l1 l2 l3 l4 M) : xX RX12 cX12_gives 5 (some .int) 3 102 [(0, .ref l0), (1, .int l1), (2, .int l2), (3, .int l3), (4, .int l4)] [] M (xQi Q) := by
  unfold NX12_gives_102 at h
  refine x_aload_n dX12_gives_102 rfl 103 rfl ?_
  refine x_aload_n dX12_gives_103 rfl 104 rfl ?_
  refine x_iload dX12_gives_104 rfl 106 rfl ?_
  refine x_iconst dX12_gives_106 kc_m1 107 rfl ?_
  refine kX12_followsBut dX12_gives_107 110 rfl hk_l0 kw8_11 (Nat.le_of_ble_eq_true rfl) (Nat.le_of_ble_eq_true rfl) h (fun r1 h => ?_)
  refine x_iload_n dX12_gives_110 rfl 111 rfl ?_
  refine kX12_has dX12_gives_111 114 rfl hk_l0 kw8_23 (Nat.le_of_ble_eq_true rfl) (Nat.le_of_ble_eq_true rfl) h (fun r2 h => ?_)
  refine x_if_eq_b dX12_gives_114 120 117 rfl rfl (fun hc => ?_) (fun hc => ?_)
  · have h := h.1 hc
    refine x_iinc dX12_gives_120 rfl (congrArg (l4 + ·) kc_1) (Nat.le_of_ble_eq_true rfl) [(0, .ref l0), (1, .int l1), (2, .int l2), (3, .int l3), (4, .int (l4 + 1))] rfl 123 rfl ?_
    refine x_goto dX12_gives_123 65 rfl ?_
    exact hB65 _ _ h
  · have h := h.2 hc
    refine x_iload dX12_gives_117 rfl 119 rfl ?_
    refine x_istore_n dX12_gives_119 (Nat.le_of_ble_eq_true rfl) [(0, .ref l0), (1, .int l1), (2, .int l2), (3, .int l4), (4, .int l4)] rfl 120 rfl ?_
    refine x_iinc dX12_gives_120 rfl (congrArg (l4 + ·) kc_1) (Nat.le_of_ble_eq_true rfl) [(0, .ref l0), (1, .int l1), (2, .int l2), (3, .int l4), (4, .int (l4 + 1))] rfl 123 rfl ?_
    refine x_goto dX12_gives_123 65 rfl ?_
    exact hB65 _ _ h
def lbX12_gives_65 (Q : Int32 → Mem → Prop) (l0 : Nat) (l1 : Int32) (l2 : Int32) (M : Mem) (B65 : Int32 → Int32 → Prop) (l3 : Int32) (l4 : Int32) : Prop :=
  ((65536 ≤ l4 → ((l3 = (-1) → Q l3 M) ∧ (¬ l3 = (-1) → ((¬ l2 = 1 → FX12_onesOf (fun (r3 : Int32) => Q r3 M) l0 l3 M) ∧ (l2 = 1 → Q l3 M))))) ∧ (¬ 65536 ≤ l4 → FX12_has (fun (r4 : Bool) => ((r4 = true → B65 l3 (l4 + 1)) ∧ (r4 = false → ((l3 = (-1) → NX12_gives_102 Q B65 l0 l1 l2 l3 l4 M) ∧ (¬ l3 = (-1) → FX12_onesOf (fun (r5 : Int32) => FX12_onesOf (fun (r6 : Int32) => ((r6 ≤ r5 → B65 l3 (l4 + 1)) ∧ (¬ r6 ≤ r5 → NX12_gives_102 Q B65 l0 l1 l2 l3 l4 M))) l0 l3 M) l0 l4 M))))) l0 l4 l1 M))
def NX12_gives_65 (Q : Int32 → Mem → Prop) (l0 : Nat) (l1 : Int32) (l2 : Int32) (l3 : Int32) (l4 : Int32) (M : Mem) : Prop := xlp (fun (B : Int32 × Int32 → Prop) a => lbX12_gives_65 Q l0 l1 l2 M (fun l3 l4 => B (l3, l4)) a.1 a.2) (l3, l4)
theorem nX12_gives_65 {Q : Int32 → Mem → Prop} {l0 : Nat} {l1 : Int32} {l2 : Int32} {l3 : Int32} {l4 : Int32} {M : Mem} (hk_l0 : SHk l0 = 12) (h : NX12_gives_65 Q l0 l1 l2 l3 l4 M) : xX RX12 cX12_gives 5 (some .int) 3 65 [(0, .ref l0), (1, .int l1), (2, .int l2), (3, .int l3), (4, .int l4)] [] M (xQi Q) := by
  obtain ⟨n, h⟩ := h
  have hB65 : ∀ (n : Nat) (l3 : Int32) (l4 : Int32), xlpn (fun (B : Int32 × Int32 → Prop) a => lbX12_gives_65 Q l0 l1 l2 M (fun l3 l4 => B (l3, l4)) a.1 a.2) n (l3, l4) → xX RX12 cX12_gives 5 (some .int) 3 65 [(0, .ref l0), (1, .int l1), (2, .int l2), (3, .int l3), (4, .int l4)] [] M (xQi Q) := by
    intro n
    induction n with
    | zero => intro l3 l4 h; exact False.elim h
    | succ n ih =>
      intro l3 l4 h
      have hB65 := ih
      have h : lbX12_gives_65 Q l0 l1 l2 M (fun l3 l4 => xlpn (fun (B : Int32 × Int32 → Prop) a => lbX12_gives_65 Q l0 l1 l2 M (fun l3 l4 => B (l3, l4)) a.1 a.2) n (l3, l4)) l3 l4 := h
      unfold lbX12_gives_65 at h
      refine x_iload dX12_gives_65 rfl 67 rfl ?_
      refine x_ldcw dX12_gives_67 kw8_27 70 rfl ?_
      refine x_icmp_ge dX12_gives_70 126 73 rfl rfl (fun hc => ?_) (fun hc => ?_)
      · have h := h.1 hc
        refine x_iload_n dX12_gives_126 rfl 127 rfl ?_
        refine x_iconst dX12_gives_127 kc_m1 128 rfl ?_
        refine x_icmp_eq dX12_gives_128 136 131 rfl rfl (fun hc => ?_) (fun hc => ?_)
        · have h := h.1 hc
          refine x_iload_n dX12_gives_136 rfl 137 rfl ?_
          refine x_goto dX12_gives_137 145 rfl ?_
          exact x_iret dX12_gives_145 h
        · have h := h.2 hc
          refine x_iload_n dX12_gives_131 rfl 132 rfl ?_
          refine x_iconst dX12_gives_132 kc_1 133 rfl ?_
          refine x_icmp_ne dX12_gives_133 140 136 rfl rfl (fun hc => ?_) (fun hc => ?_)
          · have h := h.1 hc
            refine x_aload_n dX12_gives_140 rfl 141 rfl ?_
            refine x_iload_n dX12_gives_141 rfl 142 rfl ?_
            refine kX12_onesOf dX12_gives_142 145 rfl hk_l0 kw7_200 (Nat.le_of_ble_eq_true rfl) (Nat.le_of_ble_eq_true rfl) h (fun r3 h => ?_)
            exact x_iret dX12_gives_145 h
          · have h := h.2 hc
            refine x_iload_n dX12_gives_136 rfl 137 rfl ?_
            refine x_goto dX12_gives_137 145 rfl ?_
            exact x_iret dX12_gives_145 h
      · have h := h.2 hc
        refine x_aload_n dX12_gives_73 rfl 74 rfl ?_
        refine x_iload dX12_gives_74 rfl 76 rfl ?_
        refine x_iload_n dX12_gives_76 rfl 77 rfl ?_
        refine kX12_has dX12_gives_77 80 rfl hk_l0 kw8_23 (Nat.le_of_ble_eq_true rfl) (Nat.le_of_ble_eq_true rfl) h (fun r4 h => ?_)
        refine x_if_ne_b dX12_gives_80 120 83 rfl rfl (fun hc => ?_) (fun hc => ?_)
        · have h := h.1 hc
          refine x_iinc dX12_gives_120 rfl (congrArg (l4 + ·) kc_1) (Nat.le_of_ble_eq_true rfl) [(0, .ref l0), (1, .int l1), (2, .int l2), (3, .int l3), (4, .int (l4 + 1))] rfl 123 rfl ?_
          refine x_goto dX12_gives_123 65 rfl ?_
          exact hB65 _ _ h
        · have h := h.2 hc
          refine x_iload_n dX12_gives_83 rfl 84 rfl ?_
          refine x_iconst dX12_gives_84 kc_m1 85 rfl ?_
          refine x_icmp_eq dX12_gives_85 102 88 rfl rfl (fun hc => ?_) (fun hc => ?_)
          · have h := h.1 hc
            exact nX12_gives_102 hB65 hk_l0 h
          · have h := h.2 hc
            refine x_aload_n dX12_gives_88 rfl 89 rfl ?_
            refine x_iload dX12_gives_89 rfl 91 rfl ?_
            refine kX12_onesOf dX12_gives_91 94 rfl hk_l0 kw7_200 (Nat.le_of_ble_eq_true rfl) (Nat.le_of_ble_eq_true rfl) h (fun r5 h => ?_)
            refine x_aload_n dX12_gives_94 rfl 95 rfl ?_
            refine x_iload_n dX12_gives_95 rfl 96 rfl ?_
            refine kX12_onesOf dX12_gives_96 99 rfl hk_l0 kw7_200 (Nat.le_of_ble_eq_true rfl) (Nat.le_of_ble_eq_true rfl) h (fun r6 h => ?_)
            refine x_icmp_ge dX12_gives_99 120 102 rfl rfl (fun hc => ?_) (fun hc => ?_)
            · have h := h.1 hc
              refine x_iinc dX12_gives_120 rfl (congrArg (l4 + ·) kc_1) (Nat.le_of_ble_eq_true rfl) [(0, .ref l0), (1, .int l1), (2, .int l2), (3, .int l3), (4, .int (l4 + 1))] rfl 123 rfl ?_
              refine x_goto dX12_gives_123 65 rfl ?_
              exact hB65 _ _ h
            · have h := h.2 hc
              exact nX12_gives_102 hB65 hk_l0 h
  exact hB65 n l3 l4 h
def FX12_gives (Q : Int32 → Mem → Prop) (l0 : Nat) (l1 : Int32) (l2 : Int32) (M : Mem) : Prop :=
  ∀ M7 : Mem, M7 = xu M l0 0 0 → ((¬ l2 = 2 → FX12_isIn (fun (r8 : Bool) => ((r8 = false → Q (-1) M7) ∧ (r8 = true → FX12_isIn (fun (r9 : Bool) => ((r9 = false → Q (-1) M7) ∧ (r9 = true → FX12_followsBut (fun (r10 : Int32) => FX12_has (fun (r11 : Bool) => ((r11 = true → NX12_gives_65 Q l0 l1 l2 (-1) 0 M7) ∧ (r11 = false → Q (-1) M7))) l0 r10 l1 M7) l0 ((65535 : Int32) &&& (((1 : Int32) <<< (l1 &&& 31)) ^^^ (-1))) (-1) M7))) l0 l2 0 1 M7))) l0 l1 0 15 M7) ∧ (l2 = 2 → FX12_idle (fun (r12 : Int32) => Q r12 M7) l0 M7))
theorem eX12_gives {Q : Int32 → Mem → Prop} {l0 : Nat} {l1 : Int32} {l2 : Int32} {M : Mem} (hk_l0 : SHk l0 = 12) (h : FX12_gives Q l0 l1 l2 M) : xX RX12 cX12_gives 5 (some .int) 3 0 [(0, .ref l0), (1, .int l1), (2, .int l2)] [] M (xQi Q) := by
  unfold FX12_gives at h
  refine x_aload_n dX12_gives_0 rfl 1 rfl ?_
  refine x_iconst dX12_gives_1 kc_0 2 rfl ?_
  refine pf12_0 dX12_gives_2 5 rfl hk_l0 kw5_159 (x_mem (fun M7 hM7 => ?_))
  have h := h M7 hM7
  refine x_iload_n dX12_gives_5 rfl 6 rfl ?_
  refine x_iconst dX12_gives_6 kc_2 7 rfl ?_
  refine x_icmp_ne dX12_gives_7 15 10 rfl rfl (fun hc => ?_) (fun hc => ?_)
  · have h := h.1 hc
    refine x_aload_n dX12_gives_15 rfl 16 rfl ?_
    refine x_iload_n dX12_gives_16 rfl 17 rfl ?_
    refine x_iconst dX12_gives_17 kc_0 18 rfl ?_
    refine x_bipush dX12_gives_18 kb_15 20 rfl ?_
    refine kX12_isIn dX12_gives_20 23 rfl hk_l0 kw6_82 (Nat.le_of_ble_eq_true rfl) (Nat.le_of_ble_eq_true rfl) h (fun r8 h => ?_)
    refine x_if_eq_b dX12_gives_23 58 26 rfl rfl (fun hc => ?_) (fun hc => ?_)
    · have h := h.1 hc
      refine x_iconst dX12_gives_58 kc_m1 59 rfl ?_
      exact x_iret dX12_gives_59 h
    · have h := h.2 hc
      refine x_aload_n dX12_gives_26 rfl 27 rfl ?_
      refine x_iload_n dX12_gives_27 rfl 28 rfl ?_
      refine x_iconst dX12_gives_28 kc_0 29 rfl ?_
      refine x_iconst dX12_gives_29 kc_1 30 rfl ?_
      refine kX12_isIn dX12_gives_30 33 rfl hk_l0 kw6_82 (Nat.le_of_ble_eq_true rfl) (Nat.le_of_ble_eq_true rfl) h (fun r9 h => ?_)
      refine x_if_eq_b dX12_gives_33 58 36 rfl rfl (fun hc => ?_) (fun hc => ?_)
      · have h := h.1 hc
        refine x_iconst dX12_gives_58 kc_m1 59 rfl ?_
        exact x_iret dX12_gives_59 h
      · have h := h.2 hc
        refine x_aload_n dX12_gives_36 rfl 37 rfl ?_
        refine x_aload_n dX12_gives_37 rfl 38 rfl ?_
        refine x_ldcw dX12_gives_38 kw8_10 41 rfl ?_
        refine x_iconst dX12_gives_41 kc_1 42 rfl ?_
        refine x_iload_n dX12_gives_42 rfl 43 rfl ?_
        refine x_ishl dX12_gives_43 44 rfl ?_
        refine x_iconst dX12_gives_44 kc_m1 45 rfl ?_
        refine x_ixor dX12_gives_45 46 rfl ?_
        refine x_iand dX12_gives_46 47 rfl ?_
        refine x_iconst dX12_gives_47 kc_m1 48 rfl ?_
        refine kX12_followsBut dX12_gives_48 51 rfl hk_l0 kw8_11 (Nat.le_of_ble_eq_true rfl) (Nat.le_of_ble_eq_true rfl) h (fun r10 h => ?_)
        refine x_iload_n dX12_gives_51 rfl 52 rfl ?_
        refine kX12_has dX12_gives_52 55 rfl hk_l0 kw8_23 (Nat.le_of_ble_eq_true rfl) (Nat.le_of_ble_eq_true rfl) h (fun r11 h => ?_)
        refine x_if_ne_b dX12_gives_55 60 58 rfl rfl (fun hc => ?_) (fun hc => ?_)
        · have h := h.1 hc
          refine x_iconst dX12_gives_60 kc_m1 61 rfl ?_
          refine x_istore_n dX12_gives_61 (Nat.le_of_ble_eq_true rfl) [(0, .ref l0), (1, .int l1), (2, .int l2), (3, .int (-1))] rfl 62 rfl ?_
          refine x_iconst dX12_gives_62 kc_0 63 rfl ?_
          refine x_istore dX12_gives_63 (Nat.le_of_ble_eq_true rfl) [(0, .ref l0), (1, .int l1), (2, .int l2), (3, .int (-1)), (4, .int 0)] rfl 65 rfl ?_
          exact nX12_gives_65 hk_l0 h
        · have h := h.2 hc
          refine x_iconst dX12_gives_58 kc_m1 59 rfl ?_
          exact x_iret dX12_gives_59 h
  · have h := h.2 hc
    refine x_aload_n dX12_gives_10 rfl 11 rfl ?_
    refine kX12_idle dX12_gives_11 14 rfl hk_l0 kw8_19 (Nat.le_of_ble_eq_true rfl) (Nat.le_of_ble_eq_true rfl) h (fun r12 h => ?_)
    exact x_iret dX12_gives_14 h
theorem cX12_gives_ {Q : Int32 → Mem → Prop} {l0 : Nat} {l1 : Int32} {l2 : Int32} {M : Mem} (hk_l0 : SHk l0 = 12) (h : FX12_gives Q l0 l1 l2 M) : xM yX12_gives cX12_gives 5 (some .int) 3 [.ref l0, .int l1, .int l2] M (xQi Q) := xM_of (by decide +kernel) (Nat.le_of_ble_eq_true rfl) (eX12_gives hk_l0 h)
theorem kX12_gives {own : String} {cc : ByteArray} {nL : Nat} {rt : Option FieldType} {d pc ix : Nat} {L : List (Nat × Value)} {st : List Value} {M : Mem} {Rt : xGt → Array Value → State → Outcome → State → Prop} {Q : Int32 → Mem → Prop} {l0 : Nat} {l1 : Int32} {l2 : Int32} (hd : decode cc pc = .ok (.invokevirtual ix, 3)) (q : Nat) (hq : pc + 3 = q) (hk_l0 : SHk l0 = 12) (w1 : Cond.methodLink own ix yX12_gives ∈ xTs) (hr : 3 < d) (hst : (st.map fun v => v.category).sum ≤ 8) (h : FX12_gives Q l0 l1 l2 M) (k : ∀ (r : Int32) (N : Mem), Q r N → xX own cc nL rt d q L (.int r :: st) N Rt) : xX own cc nL rt d pc L (.int l2 :: .int l1 :: .ref l0 :: st) M Rt :=
  x_callV_i (n := 2) (As := [.int l1, .int l2]) hd q hq hk_l0 (by decide) rfl rfl w1 kw8_16 kw8_17 kw1_14 kw8_18 (by decide +kernel) rfl hr (by decide) hst _ rfl (cX12_gives_ hk_l0 h) k
def NX12_seenFrom_54 (Q : Int32 → Prop) (B7 : Int32 → Int32 → Int32 → Prop) (l0 : Nat) (l1 : Int32) (l2 : Int32) (l3 : Int32) (l4 : Int32) (l5 : Int32) (M : Mem) : Prop :=
  FX12_greater (fun (r1 : Int32) => B7 l2 r1 (l4 + 1)) l0 l3 l5 M
theorem nX12_seenFrom_54 {Q : Int32 → Prop} {B7 : Int32 → Int32 → Int32 → Prop} {l0 : Nat} {l1 : Int32} {l2 : Int32} {l3 : Int32} {l4 : Int32} {l5 : Int32} {M : Mem} (hB7 : ∀ (l2 : Int32) (l3 : Int32) (l4 : Int32), B7 l2 l3 l4 → xX RX12 cX12_seenFrom 6 (some .int) 2 7 [(0, .ref l0), (1, .int l1), (2, .int l2), (3, .int l3), (4, .int l4)] [] M (xQi (xP M Q))) (hk_l0 : SHk l0 = 12) (h : NX12_seenFrom_54 Q B7 l0 l1 l2 l3 l4 l5 M) : xX RX12 cX12_seenFrom 6 (some .int) 2 54 [(0, .ref l0), (1, .int l1), (2, .int l2), (3, .int l3), (4, .int l4), (5, .int l5)] [] M (xQi (xP M Q)) := by
  unfold NX12_seenFrom_54 at h
  refine x_aload_n dX12_seenFrom_54 rfl 55 rfl ?_
  refine x_iload_n dX12_seenFrom_55 rfl 56 rfl ?_
  refine x_iload dX12_seenFrom_56 rfl 58 rfl ?_
  refine kX12_greater dX12_seenFrom_58 61 rfl hk_l0 kw7_130 (Nat.le_of_ble_eq_true rfl) (Nat.le_of_ble_eq_true rfl) h (fun r1 h => ?_)
  refine x_istore_n dX12_seenFrom_61 (Nat.le_of_ble_eq_true rfl) [(0, .ref l0), (1, .int l1), (2, .int l2), (3, .int r1), (4, .int l4), (5, .int l5)] rfl 62 rfl ?_
  refine x_iinc dX12_seenFrom_62 rfl (congrArg (l4 + ·) kc_1) (Nat.le_of_ble_eq_true rfl) [(0, .ref l0), (1, .int l1), (2, .int l2), (3, .int r1), (4, .int (l4 + 1)), (5, .int l5)] rfl 65 rfl ?_
  refine x_goto dX12_seenFrom_65 7 rfl ?_
  refine x_weak [(0, .ref l0), (1, .int l1), (2, .int l2), (3, .int r1), (4, .int (l4 + 1))] [0, 1, 2, 3, 4] rfl ?_
  exact hB7 _ _ _ h
def NX12_seenFrom_40 (Q : Int32 → Prop) (B7 : Int32 → Int32 → Int32 → Prop) (l0 : Nat) (l1 : Int32) (l2 : Int32) (l3 : Int32) (l4 : Int32) (s0 : Nat) (s1 : Int32) (s2 : Int32) (M : Mem) : Prop :=
  vp_in (s1 + s2) (SHn s0) ∧ ∀ y2 : Int32, y2 = M s0 (ix (s1 + s2)) → ((y2 ≤ l3 → NX12_seenFrom_54 Q B7 l0 l1 l2 l3 l4 y2 M) ∧ (¬ y2 ≤ l3 → NX12_seenFrom_54 Q B7 l0 l1 (l2 + 1) l3 l4 y2 M))
theorem nX12_seenFrom_40 {Q : Int32 → Prop} {B7 : Int32 → Int32 → Int32 → Prop} {l0 : Nat} {l1 : Int32} {l2 : Int32} {l3 : Int32} {l4 : Int32} {s0 : Nat} {s1 : Int32} {s2 : Int32} {M : Mem} (hB7 : ∀ (l2 : Int32) (l3 : Int32) (l4 : Int32), B7 l2 l3 l4 → xX RX12 cX12_seenFrom 6 (some .int) 2 7 [(0, .ref l0), (1, .int l1), (2, .int l2), (3, .int l3), (4, .int l4)] [] M (xQi (xP M Q))) (hk_l0 : SHk l0 = 12) (hk_s0 : SHk s0 = 13) (h : NX12_seenFrom_40 Q B7 l0 l1 l2 l3 l4 s0 s1 s2 M) : xX RX12 cX12_seenFrom 6 (some .int) 2 40 [(0, .ref l0), (1, .int l1), (2, .int l2), (3, .int l3), (4, .int l4)] [.int s2, .int s1, .ref s0] M (xQi (xP M Q)) := by
  unfold NX12_seenFrom_40 at h
  refine x_iadd dX12_seenFrom_40 41 rfl ?_
  obtain ⟨hin, h⟩ := h
  refine x_iaload dX12_seenFrom_41 ⟨hk_s0, rfl⟩ hin 42 rfl ?_
  refine x_top (fun y2 hy2 => ?_)
  have h := h y2 hy2
  refine x_istore dX12_seenFrom_42 (Nat.le_of_ble_eq_true rfl) [(0, .ref l0), (1, .int l1), (2, .int l2), (3, .int l3), (4, .int l4), (5, .int y2)] rfl 44 rfl ?_
  refine x_iload dX12_seenFrom_44 rfl 46 rfl ?_
  refine x_iload_n dX12_seenFrom_46 rfl 47 rfl ?_
  refine x_icmp_le dX12_seenFrom_47 54 50 rfl rfl (fun hc => ?_) (fun hc => ?_)
  · have h := h.1 hc
    exact nX12_seenFrom_54 hB7 hk_l0 h
  · have h := h.2 hc
    refine x_iload_n dX12_seenFrom_50 rfl 51 rfl ?_
    refine x_iconst dX12_seenFrom_51 kc_1 52 rfl ?_
    refine x_iadd dX12_seenFrom_52 53 rfl ?_
    refine x_istore_n dX12_seenFrom_53 (Nat.le_of_ble_eq_true rfl) [(0, .ref l0), (1, .int l1), (2, .int (l2 + 1)), (3, .int l3), (4, .int l4), (5, .int y2)] rfl 54 rfl ?_
    exact nX12_seenFrom_54 hB7 hk_l0 h
def lbX12_seenFrom_7 (Q : Int32 → Prop) (l0 : Nat) (l1 : Int32) (M : Mem) (B7 : Int32 → Int32 → Int32 → Prop) (l2 : Int32) (l3 : Int32) (l4 : Int32) : Prop :=
  (((M l0 6) ≤ l4 → Q l2) ∧ (¬ (M l0 6) ≤ l4 → ((l1 = 0 → NX12_seenFrom_40 Q B7 l0 l1 l2 l3 l4 (l0 + 1) 63 l4 M) ∧ (¬ l1 = 0 → NX12_seenFrom_40 Q B7 l0 l1 l2 l3 l4 (l0 + 1) 63 (((M l0 6) - 1) - l4) M))))
def NX12_seenFrom_7 (Q : Int32 → Prop) (l0 : Nat) (l1 : Int32) (l2 : Int32) (l3 : Int32) (l4 : Int32) (M : Mem) : Prop := xlp (fun (B : Int32 × Int32 × Int32 → Prop) a => lbX12_seenFrom_7 Q l0 l1 M (fun l2 l3 l4 => B (l2, l3, l4)) a.1 a.2.1 a.2.2) (l2, l3, l4)
theorem nX12_seenFrom_7 {Q : Int32 → Prop} {l0 : Nat} {l1 : Int32} {l2 : Int32} {l3 : Int32} {l4 : Int32} {M : Mem} (hk_l0 : SHk l0 = 12) (h : NX12_seenFrom_7 Q l0 l1 l2 l3 l4 M) : xX RX12 cX12_seenFrom 6 (some .int) 2 7 [(0, .ref l0), (1, .int l1), (2, .int l2), (3, .int l3), (4, .int l4)] [] M (xQi (xP M Q)) := by
  obtain ⟨n, h⟩ := h
  have hB7 : ∀ (n : Nat) (l2 : Int32) (l3 : Int32) (l4 : Int32), xlpn (fun (B : Int32 × Int32 × Int32 → Prop) a => lbX12_seenFrom_7 Q l0 l1 M (fun l2 l3 l4 => B (l2, l3, l4)) a.1 a.2.1 a.2.2) n (l2, l3, l4) → xX RX12 cX12_seenFrom 6 (some .int) 2 7 [(0, .ref l0), (1, .int l1), (2, .int l2), (3, .int l3), (4, .int l4)] [] M (xQi (xP M Q)) := by
    intro n
    induction n with
    | zero => intro l2 l3 l4 h; exact False.elim h
    | succ n ih =>
      intro l2 l3 l4 h
      have hB7 := ih
      have h : lbX12_seenFrom_7 Q l0 l1 M (fun l2 l3 l4 => xlpn (fun (B : Int32 × Int32 × Int32 → Prop) a => lbX12_seenFrom_7 Q l0 l1 M (fun l2 l3 l4 => B (l2, l3, l4)) a.1 a.2.1 a.2.2) n (l2, l3, l4)) l2 l3 l4 := h
      unfold lbX12_seenFrom_7 at h
      refine x_iload dX12_seenFrom_7 rfl 9 rfl ?_
      refine x_aload_n dX12_seenFrom_9 rfl 10 rfl ?_
      refine gf12_6 dX12_seenFrom_10 13 rfl hk_l0 kw5_165 ?_
      refine x_icmp_ge dX12_seenFrom_13 68 16 rfl rfl (fun hc => ?_) (fun hc => ?_)
      · have h := h.1 hc
        refine x_iload_n dX12_seenFrom_68 rfl 69 rfl ?_
        exact x_iret dX12_seenFrom_69 ⟨rfl, h⟩
      · have h := h.2 hc
        refine x_aload_n dX12_seenFrom_16 rfl 17 rfl ?_
        refine gf12_1 dX12_seenFrom_17 20 rfl hk_l0 kw5_160 ?_
        refine x_bipush dX12_seenFrom_20 kb_63 22 rfl ?_
        refine x_iload_n dX12_seenFrom_22 rfl 23 rfl ?_
        refine x_if_eq dX12_seenFrom_23 38 26 rfl rfl (fun hc => ?_) (fun hc => ?_)
        · have h := h.1 hc
          refine x_iload dX12_seenFrom_38 rfl 40 rfl ?_
          exact nX12_seenFrom_40 hB7 hk_l0 (ly12_1 hk_l0).1 h
        · have h := h.2 hc
          refine x_aload_n dX12_seenFrom_26 rfl 27 rfl ?_
          refine gf12_6 dX12_seenFrom_27 30 rfl hk_l0 kw5_165 ?_
          refine x_iconst dX12_seenFrom_30 kc_1 31 rfl ?_
          refine x_isub dX12_seenFrom_31 32 rfl ?_
          refine x_iload dX12_seenFrom_32 rfl 34 rfl ?_
          refine x_isub dX12_seenFrom_34 35 rfl ?_
          refine x_goto dX12_seenFrom_35 40 rfl ?_
          exact nX12_seenFrom_40 hB7 hk_l0 (ly12_1 hk_l0).1 h
  exact hB7 n l2 l3 l4 h
def FX12_seenFrom (Q : Int32 → Prop) (l0 : Nat) (l1 : Int32) (M : Mem) : Prop :=
  NX12_seenFrom_7 Q l0 l1 0 0 0 M
theorem eX12_seenFrom {Q : Int32 → Prop} {l0 : Nat} {l1 : Int32} {M : Mem} (hk_l0 : SHk l0 = 12) (h : FX12_seenFrom Q l0 l1 M) : xX RX12 cX12_seenFrom 6 (some .int) 2 0 [(0, .ref l0), (1, .int l1)] [] M (xQi (xP M Q)) := by
  unfold FX12_seenFrom at h
  refine x_iconst dX12_seenFrom_0 kc_0 1 rfl ?_
  refine x_istore_n dX12_seenFrom_1 (Nat.le_of_ble_eq_true rfl) [(0, .ref l0), (1, .int l1), (2, .int 0)] rfl 2 rfl ?_
  refine x_iconst dX12_seenFrom_2 kc_0 3 rfl ?_
  refine x_istore_n dX12_seenFrom_3 (Nat.le_of_ble_eq_true rfl) [(0, .ref l0), (1, .int l1), (2, .int 0), (3, .int 0)] rfl 4 rfl ?_
  refine x_iconst dX12_seenFrom_4 kc_0 5 rfl ?_
  refine x_istore dX12_seenFrom_5 (Nat.le_of_ble_eq_true rfl) [(0, .ref l0), (1, .int l1), (2, .int 0), (3, .int 0), (4, .int 0)] rfl 7 rfl ?_
  exact nX12_seenFrom_7 hk_l0 h
theorem cX12_seenFrom_ {Q : Int32 → Prop} {l0 : Nat} {l1 : Int32} {M : Mem} (hk_l0 : SHk l0 = 12) (h : FX12_seenFrom Q l0 l1 M) : xM yX12_seenFrom cX12_seenFrom 6 (some .int) 2 [.ref l0, .int l1] M (xQi (xP M Q)) := xM_of (by decide +kernel) (Nat.le_of_ble_eq_true rfl) (eX12_seenFrom hk_l0 h)
theorem kX12_seenFrom {own : String} {cc : ByteArray} {nL : Nat} {rt : Option FieldType} {d pc ix : Nat} {L : List (Nat × Value)} {st : List Value} {M : Mem} {Rt : xGt → Array Value → State → Outcome → State → Prop} {Q : Int32 → Prop} {l0 : Nat} {l1 : Int32} (hd : decode cc pc = .ok (.invokevirtual ix, 3)) (q : Nat) (hq : pc + 3 = q) (hk_l0 : SHk l0 = 12) (w1 : Cond.methodLink own ix yX12_seenFrom ∈ xTs) (hr : 2 < d) (hst : (st.map fun v => v.category).sum ≤ 8) (h : FX12_seenFrom Q l0 l1 M) (k : ∀ (r : Int32), Q r → xX own cc nL rt d q L (.int r :: st) M Rt) : xX own cc nL rt d pc L (.int l1 :: .ref l0 :: st) M Rt :=
  x_callV_i (n := 1) (As := [.int l1]) hd q hq hk_l0 (by decide) rfl rfl w1 kw8_34 ks8_6 kw1_14 kw8_35 (by decide +kernel) rfl hr (by decide) hst _ rfl (cX12_seenFrom_ hk_l0 h) (fun r N hN => by obtain ⟨rfl, hN⟩ := hN; exact k r hN)
def NX12_isStork_27 (Q : Bool → Prop) (l0 : Nat) (l1 : Int32) (M : Mem) : Prop :=
  ((l1 = ((M l0 6) - 1) → Q true) ∧ (¬ l1 = ((M l0 6) - 1) → vp_in (63 + l1) 107 ∧ vp_in ((63 + l1) + 1) 107 ∧ (((M (l0 + 1) (ix (63 + l1))) ≤ (M (l0 + 1) (ix ((63 + l1) + 1))) → Q false) ∧ (¬ (M (l0 + 1) (ix (63 + l1))) ≤ (M (l0 + 1) (ix ((63 + l1) + 1))) → Q true))))
theorem nX12_isStork_27 {Q : Bool → Prop} {l0 : Nat} {l1 : Int32} {M : Mem} (hk_l0 : SHk l0 = 12) (h : NX12_isStork_27 Q l0 l1 M) : xX RX12 cX12_isStork 2 (some .boolean) 1 27 [(0, .ref l0), (1, .int l1)] [] M (xQb (xP M Q)) := by
  unfold NX12_isStork_27 at h
  refine x_iload_n dX12_isStork_27 rfl 28 rfl ?_
  refine x_aload_n dX12_isStork_28 rfl 29 rfl ?_
  refine gf12_6 dX12_isStork_29 32 rfl hk_l0 kw5_165 ?_
  refine x_iconst dX12_isStork_32 kc_1 33 rfl ?_
  refine x_isub dX12_isStork_33 34 rfl ?_
  refine x_icmp_eq dX12_isStork_34 60 37 rfl rfl (fun hc => ?_) (fun hc => ?_)
  · have h := h.1 hc
    refine x_iconst dX12_isStork_60 kc_1 61 rfl ?_
    refine x_goto dX12_isStork_61 65 rfl ?_
    exact x_zret (z := true) dX12_isStork_65 ⟨rfl, h⟩
  · have h := h.2 hc
    refine x_aload_n dX12_isStork_37 rfl 38 rfl ?_
    refine gf12_1 dX12_isStork_38 41 rfl hk_l0 kw5_160 ?_
    refine x_bipush dX12_isStork_41 kb_63 43 rfl ?_
    refine x_iload_n dX12_isStork_43 rfl 44 rfl ?_
    refine x_iadd dX12_isStork_44 45 rfl ?_
    obtain ⟨hin, h⟩ := h
    refine x_iaload dX12_isStork_45 (ly12_1 hk_l0) hin 46 rfl ?_
    refine x_aload_n dX12_isStork_46 rfl 47 rfl ?_
    refine gf12_1 dX12_isStork_47 50 rfl hk_l0 kw5_160 ?_
    refine x_bipush dX12_isStork_50 kb_63 52 rfl ?_
    refine x_iload_n dX12_isStork_52 rfl 53 rfl ?_
    refine x_iadd dX12_isStork_53 54 rfl ?_
    refine x_iconst dX12_isStork_54 kc_1 55 rfl ?_
    refine x_iadd dX12_isStork_55 56 rfl ?_
    obtain ⟨hin, h⟩ := h
    refine x_iaload dX12_isStork_56 (ly12_1 hk_l0) hin 57 rfl ?_
    refine x_icmp_le dX12_isStork_57 64 60 rfl rfl (fun hc => ?_) (fun hc => ?_)
    · have h := h.1 hc
      refine x_iconst dX12_isStork_64 kc_0 65 rfl ?_
      exact x_zret (z := false) dX12_isStork_65 ⟨rfl, h⟩
    · have h := h.2 hc
      refine x_iconst dX12_isStork_60 kc_1 61 rfl ?_
      refine x_goto dX12_isStork_61 65 rfl ?_
      exact x_zret (z := true) dX12_isStork_65 ⟨rfl, h⟩
def FX12_isStork (Q : Bool → Prop) (l0 : Nat) (l1 : Int32) (M : Mem) : Prop :=
  ((l1 = 0 → NX12_isStork_27 Q l0 l1 M) ∧ (¬ l1 = 0 → vp_in (63 + l1) 107 ∧ vp_in ((63 + l1) - 1) 107 ∧ (((M (l0 + 1) (ix (63 + l1))) ≤ (M (l0 + 1) (ix ((63 + l1) - 1))) → Q false) ∧ (¬ (M (l0 + 1) (ix (63 + l1))) ≤ (M (l0 + 1) (ix ((63 + l1) - 1))) → NX12_isStork_27 Q l0 l1 M))))
theorem eX12_isStork {Q : Bool → Prop} {l0 : Nat} {l1 : Int32} {M : Mem} (hk_l0 : SHk l0 = 12) (h : FX12_isStork Q l0 l1 M) : xX RX12 cX12_isStork 2 (some .boolean) 1 0 [(0, .ref l0), (1, .int l1)] [] M (xQb (xP M Q)) := by
  unfold FX12_isStork at h
  refine x_iload_n dX12_isStork_0 rfl 1 rfl ?_
  refine x_if_eq dX12_isStork_1 27 4 rfl rfl (fun hc => ?_) (fun hc => ?_)
  · have h := h.1 hc
    exact nX12_isStork_27 hk_l0 h
  · have h := h.2 hc
    refine x_aload_n dX12_isStork_4 rfl 5 rfl ?_
    refine gf12_1 dX12_isStork_5 8 rfl hk_l0 kw5_160 ?_
    refine x_bipush dX12_isStork_8 kb_63 10 rfl ?_
    refine x_iload_n dX12_isStork_10 rfl 11 rfl ?_
    refine x_iadd dX12_isStork_11 12 rfl ?_
    obtain ⟨hin, h⟩ := h
    refine x_iaload dX12_isStork_12 (ly12_1 hk_l0) hin 13 rfl ?_
    refine x_aload_n dX12_isStork_13 rfl 14 rfl ?_
    refine gf12_1 dX12_isStork_14 17 rfl hk_l0 kw5_160 ?_
    refine x_bipush dX12_isStork_17 kb_63 19 rfl ?_
    refine x_iload_n dX12_isStork_19 rfl 20 rfl ?_
    refine x_iadd dX12_isStork_20 21 rfl ?_
    refine x_iconst dX12_isStork_21 kc_1 22 rfl ?_
    refine x_isub dX12_isStork_22 23 rfl ?_
    obtain ⟨hin, h⟩ := h
    refine x_iaload dX12_isStork_23 (ly12_1 hk_l0) hin 24 rfl ?_
    refine x_icmp_le dX12_isStork_24 64 27 rfl rfl (fun hc => ?_) (fun hc => ?_)
    · have h := h.1 hc
      refine x_iconst dX12_isStork_64 kc_0 65 rfl ?_
      exact x_zret (z := false) dX12_isStork_65 ⟨rfl, h⟩
    · have h := h.2 hc
      exact nX12_isStork_27 hk_l0 h
theorem cX12_isStork_ {Q : Bool → Prop} {l0 : Nat} {l1 : Int32} {M : Mem} (hk_l0 : SHk l0 = 12) (h : FX12_isStork Q l0 l1 M) : xM yX12_isStork cX12_isStork 2 (some .boolean) 1 [.ref l0, .int l1] M (xQb (xP M Q)) := xM_of (by decide +kernel) (Nat.le_of_ble_eq_true rfl) (eX12_isStork hk_l0 h)
theorem kX12_isStork {own : String} {cc : ByteArray} {nL : Nat} {rt : Option FieldType} {d pc ix : Nat} {L : List (Nat × Value)} {st : List Value} {M : Mem} {Rt : xGt → Array Value → State → Outcome → State → Prop} {Q : Bool → Prop} {l0 : Nat} {l1 : Int32} (hd : decode cc pc = .ok (.invokevirtual ix, 3)) (q : Nat) (hq : pc + 3 = q) (hk_l0 : SHk l0 = 12) (w1 : Cond.methodLink own ix yX12_isStork ∈ xTs) (hr : 1 < d) (hst : (st.map fun v => v.category).sum ≤ 8) (h : FX12_isStork Q l0 l1 M) (k : ∀ (r : Bool), Q r → xX own cc nL rt d q L (.int (bI r) :: st) M Rt) : xX own cc nL rt d pc L (.int l1 :: .ref l0 :: st) M Rt :=
  x_callV_b (n := 1) (As := [.int l1]) hd q hq hk_l0 (by decide) rfl rfl w1 kw8_38 ks8_7 kw1_14 kw8_39 (by decide +kernel) rfl hr (by decide) hst _ rfl (cX12_isStork_ hk_l0 h) (fun r N hN => by obtain ⟨rfl, hN⟩ := hN; exact k r hN)
def NX12_seen_33 (Q : Int32 → Mem → Prop) (s0 : Nat) (s1 : Int32) (M : Mem) : Prop :=
  FX12_seenFrom (fun (r1 : Int32) => Q r1 M) s0 s1 M
theorem nX12_seen_33 {Q : Int32 → Mem → Prop} {s0 : Nat} {s1 : Int32} {M : Mem} (hk_s0 : SHk s0 = 12) (h : NX12_seen_33 Q s0 s1 M) : xX RX12 cX12_seen 4 (some .int) 3 33 [] [.int s1, .ref s0] M (xQi Q) := by
  unfold NX12_seen_33 at h
  refine kX12_seenFrom dX12_seen_33 36 rfl hk_s0 kw8_32 (Nat.le_of_ble_eq_true rfl) (Nat.le_of_ble_eq_true rfl) h (fun r1 h => ?_)
  exact x_iret dX12_seen_36 h
def lbX12_seen_41 (Q : Int32 → Mem → Prop) (l0 : Nat) (M : Mem) (B41 : Int32 → Int32 → Prop) (l2 : Int32) (l3 : Int32) : Prop :=
  (((M l0 6) ≤ l3 → Q l2 M) ∧ (¬ (M l0 6) ≤ l3 → FX12_isStork (fun (r2 : Bool) => ((r2 = false → B41 l2 (l3 + 1)) ∧ (r2 = true → ∀ y3 : Int32, y3 = l2 ||| ((1 : Int32) <<< (l3 &&& 31)) → B41 y3 (l3 + 1)))) l0 l3 M))
def NX12_seen_41 (Q : Int32 → Mem → Prop) (l0 : Nat) (l2 : Int32) (l3 : Int32) (M : Mem) : Prop := xlp (fun (B : Int32 × Int32 → Prop) a => lbX12_seen_41 Q l0 M (fun l2 l3 => B (l2, l3)) a.1 a.2) (l2, l3)
theorem nX12_seen_41 {Q : Int32 → Mem → Prop} {l0 : Nat} {l2 : Int32} {l3 : Int32} {M : Mem} (hk_l0 : SHk l0 = 12) (h : NX12_seen_41 Q l0 l2 l3 M) : xX RX12 cX12_seen 4 (some .int) 3 41 [(0, .ref l0), (2, .int l2), (3, .int l3)] [] M (xQi Q) := by
  obtain ⟨n, h⟩ := h
  have hB41 : ∀ (n : Nat) (l2 : Int32) (l3 : Int32), xlpn (fun (B : Int32 × Int32 → Prop) a => lbX12_seen_41 Q l0 M (fun l2 l3 => B (l2, l3)) a.1 a.2) n (l2, l3) → xX RX12 cX12_seen 4 (some .int) 3 41 [(0, .ref l0), (2, .int l2), (3, .int l3)] [] M (xQi Q) := by
    intro n
    induction n with
    | zero => intro l2 l3 h; exact False.elim h
    | succ n ih =>
      intro l2 l3 h
      have hB41 := ih
      have h : lbX12_seen_41 Q l0 M (fun l2 l3 => xlpn (fun (B : Int32 × Int32 → Prop) a => lbX12_seen_41 Q l0 M (fun l2 l3 => B (l2, l3)) a.1 a.2) n (l2, l3)) l2 l3 := h
      unfold lbX12_seen_41 at h
      refine x_iload_n dX12_seen_41 rfl 42 rfl ?_
      refine x_aload_n dX12_seen_42 rfl 43 rfl ?_
      refine gf12_6 dX12_seen_43 46 rfl hk_l0 kw5_165 ?_
      refine x_icmp_ge dX12_seen_46 69 49 rfl rfl (fun hc => ?_) (fun hc => ?_)
      · have h := h.1 hc
        refine x_iload_n dX12_seen_69 rfl 70 rfl ?_
        exact x_iret dX12_seen_70 h
      · have h := h.2 hc
        refine x_aload_n dX12_seen_49 rfl 50 rfl ?_
        refine x_iload_n dX12_seen_50 rfl 51 rfl ?_
        refine kX12_isStork dX12_seen_51 54 rfl hk_l0 kw8_36 (Nat.le_of_ble_eq_true rfl) (Nat.le_of_ble_eq_true rfl) h (fun r2 h => ?_)
        refine x_if_eq_b dX12_seen_54 63 57 rfl rfl (fun hc => ?_) (fun hc => ?_)
        · have h := h.1 hc
          refine x_iinc dX12_seen_63 rfl (congrArg (l3 + ·) kc_1) (Nat.le_of_ble_eq_true rfl) [(0, .ref l0), (2, .int l2), (3, .int (l3 + 1))] rfl 66 rfl ?_
          refine x_goto dX12_seen_66 41 rfl ?_
          exact hB41 _ _ h
        · have h := h.2 hc
          refine x_iload_n dX12_seen_57 rfl 58 rfl ?_
          refine x_iconst dX12_seen_58 kc_1 59 rfl ?_
          refine x_iload_n dX12_seen_59 rfl 60 rfl ?_
          refine x_ishl dX12_seen_60 61 rfl ?_
          refine x_ior dX12_seen_61 62 rfl ?_
          refine x_top (fun y3 hy3 => ?_)
          have h := h y3 hy3
          refine x_istore_n dX12_seen_62 (Nat.le_of_ble_eq_true rfl) [(0, .ref l0), (2, .int y3), (3, .int l3)] rfl 63 rfl ?_
          refine x_iinc dX12_seen_63 rfl (congrArg (l3 + ·) kc_1) (Nat.le_of_ble_eq_true rfl) [(0, .ref l0), (2, .int y3), (3, .int (l3 + 1))] rfl 66 rfl ?_
          refine x_goto dX12_seen_66 41 rfl ?_
          exact hB41 _ _ h
  exact hB41 n l2 l3 h
def FX12_seen (Q : Int32 → Mem → Prop) (l0 : Nat) (l1 : Int32) (M : Mem) : Prop :=
  ∀ M4 : Mem, M4 = xu M l0 0 0 → FX12_isIn (fun (r5 : Bool) => ((r5 = true → ((2 ≤ l1 → NX12_seen_41 Q l0 0 0 M4) ∧ (¬ 2 ≤ l1 → ((¬ l1 = 1 → NX12_seen_33 Q l0 0 M4) ∧ (l1 = 1 → NX12_seen_33 Q l0 1 M4))))) ∧ (r5 = false → Q (-1) M4))) l0 l1 0 2 M4
theorem eX12_seen {Q : Int32 → Mem → Prop} {l0 : Nat} {l1 : Int32} {M : Mem} (hk_l0 : SHk l0 = 12) (h : FX12_seen Q l0 l1 M) : xX RX12 cX12_seen 4 (some .int) 3 0 [(0, .ref l0), (1, .int l1)] [] M (xQi Q) := by
  unfold FX12_seen at h
  refine x_aload_n dX12_seen_0 rfl 1 rfl ?_
  refine x_iconst dX12_seen_1 kc_0 2 rfl ?_
  refine pf12_0 dX12_seen_2 5 rfl hk_l0 kw5_159 (x_mem (fun M4 hM4 => ?_))
  have h := h M4 hM4
  refine x_aload_n dX12_seen_5 rfl 6 rfl ?_
  refine x_iload_n dX12_seen_6 rfl 7 rfl ?_
  refine x_iconst dX12_seen_7 kc_0 8 rfl ?_
  refine x_iconst dX12_seen_8 kc_2 9 rfl ?_
  refine kX12_isIn dX12_seen_9 12 rfl hk_l0 kw6_82 (Nat.le_of_ble_eq_true rfl) (Nat.le_of_ble_eq_true rfl) h (fun r5 h => ?_)
  refine x_if_ne_b dX12_seen_12 17 15 rfl rfl (fun hc => ?_) (fun hc => ?_)
  · have h := h.1 hc
    refine x_iload_n dX12_seen_17 rfl 18 rfl ?_
    refine x_iconst dX12_seen_18 kc_2 19 rfl ?_
    refine x_icmp_ge dX12_seen_19 37 22 rfl rfl (fun hc => ?_) (fun hc => ?_)
    · have h := h.1 hc
      refine x_iconst dX12_seen_37 kc_0 38 rfl ?_
      refine x_istore_n dX12_seen_38 (Nat.le_of_ble_eq_true rfl) [(0, .ref l0), (1, .int l1), (2, .int 0)] rfl 39 rfl ?_
      refine x_iconst dX12_seen_39 kc_0 40 rfl ?_
      refine x_istore_n dX12_seen_40 (Nat.le_of_ble_eq_true rfl) [(0, .ref l0), (1, .int l1), (2, .int 0), (3, .int 0)] rfl 41 rfl ?_
      refine x_weak [(0, .ref l0), (2, .int 0), (3, .int 0)] [0, 2, 3] rfl ?_
      exact nX12_seen_41 hk_l0 h
    · have h := h.2 hc
      refine x_aload_n dX12_seen_22 rfl 23 rfl ?_
      refine x_iload_n dX12_seen_23 rfl 24 rfl ?_
      refine x_iconst dX12_seen_24 kc_1 25 rfl ?_
      refine x_icmp_ne dX12_seen_25 32 28 rfl rfl (fun hc => ?_) (fun hc => ?_)
      · have h := h.1 hc
        refine x_iconst dX12_seen_32 kc_0 33 rfl ?_
        refine x_weak [] [] rfl ?_
        exact nX12_seen_33 hk_l0 h
      · have h := h.2 hc
        refine x_iconst dX12_seen_28 kc_1 29 rfl ?_
        refine x_goto dX12_seen_29 33 rfl ?_
        refine x_weak [] [] rfl ?_
        exact nX12_seen_33 hk_l0 h
  · have h := h.2 hc
    refine x_iconst dX12_seen_15 kc_m1 16 rfl ?_
    exact x_iret dX12_seen_16 h
theorem cX12_seen_ {Q : Int32 → Mem → Prop} {l0 : Nat} {l1 : Int32} {M : Mem} (hk_l0 : SHk l0 = 12) (h : FX12_seen Q l0 l1 M) : xM yX12_seen cX12_seen 4 (some .int) 3 [.ref l0, .int l1] M (xQi Q) := xM_of (by decide +kernel) (Nat.le_of_ble_eq_true rfl) (eX12_seen hk_l0 h)
theorem kX12_seen {own : String} {cc : ByteArray} {nL : Nat} {rt : Option FieldType} {d pc ix : Nat} {L : List (Nat × Value)} {st : List Value} {M : Mem} {Rt : xGt → Array Value → State → Outcome → State → Prop} {Q : Int32 → Mem → Prop} {l0 : Nat} {l1 : Int32} (hd : decode cc pc = .ok (.invokevirtual ix, 3)) (q : Nat) (hq : pc + 3 = q) (hk_l0 : SHk l0 = 12) (w1 : Cond.methodLink own ix yX12_seen ∈ xTs) (hr : 3 < d) (hst : (st.map fun v => v.category).sum ≤ 8) (h : FX12_seen Q l0 l1 M) (k : ∀ (r : Int32) (N : Mem), Q r N → xX own cc nL rt d q L (.int r :: st) N Rt) : xX own cc nL rt d pc L (.int l1 :: .ref l0 :: st) M Rt :=
  x_callV_i (n := 1) (As := [.int l1]) hd q hq hk_l0 (by decide) rfl rfl w1 kw8_29 kw8_30 kw1_14 kw8_31 (by decide +kernel) rfl hr (by decide) hst _ rfl (cX12_seen_ hk_l0 h) k
def lbX12_hearsOne_33 (Q : Bool → Prop) (l0 : Nat) (l1 : Int32) (l2 : Int32) (l3 : Int32) (M : Mem) (B33 : Int32 → Prop) (l4 : Int32) : Prop :=
  FX12_greater (fun (r1 : Int32) => ((r1 ≤ l4 → Q true) ∧ (¬ r1 ≤ l4 → vp_in (63 + l4) 107 ∧ (((M (l0 + 1) (ix (63 + l4))) < l3 → B33 (l4 + 1)) ∧ (¬ (M (l0 + 1) (ix (63 + l4))) < l3 → Q false))))) l0 l1 l2 M
def NX12_hearsOne_33 (Q : Bool → Prop) (l0 : Nat) (l1 : Int32) (l2 : Int32) (l3 : Int32) (l4 : Int32) (M : Mem) : Prop := xlp (fun (B : Int32 → Prop) a => lbX12_hearsOne_33 Q l0 l1 l2 l3 M (fun l4 => B (l4)) a) (l4)
theorem nX12_hearsOne_33 {Q : Bool → Prop} {l0 : Nat} {l1 : Int32} {l2 : Int32} {l3 : Int32} {l4 : Int32} {M : Mem} (hk_l0 : SHk l0 = 12) (h : NX12_hearsOne_33 Q l0 l1 l2 l3 l4 M) : xX RX12 cX12_hearsOne 5 (some .boolean) 2 33 [(0, .ref l0), (1, .int l1), (2, .int l2), (3, .int l3), (4, .int l4)] [] M (xQb (xP M Q)) := by
  obtain ⟨n, h⟩ := h
  have hB33 : ∀ (n : Nat) (l4 : Int32), xlpn (fun (B : Int32 → Prop) a => lbX12_hearsOne_33 Q l0 l1 l2 l3 M (fun l4 => B (l4)) a) n (l4) → xX RX12 cX12_hearsOne 5 (some .boolean) 2 33 [(0, .ref l0), (1, .int l1), (2, .int l2), (3, .int l3), (4, .int l4)] [] M (xQb (xP M Q)) := by
    intro n
    induction n with
    | zero => intro l4 h; exact False.elim h
    | succ n ih =>
      intro l4 h
      have hB33 := ih
      have h : lbX12_hearsOne_33 Q l0 l1 l2 l3 M (fun l4 => xlpn (fun (B : Int32 → Prop) a => lbX12_hearsOne_33 Q l0 l1 l2 l3 M (fun l4 => B (l4)) a) n (l4)) l4 := h
      unfold lbX12_hearsOne_33 at h
      refine x_iload dX12_hearsOne_33 rfl 35 rfl ?_
      refine x_aload_n dX12_hearsOne_35 rfl 36 rfl ?_
      refine x_iload_n dX12_hearsOne_36 rfl 37 rfl ?_
      refine x_iload_n dX12_hearsOne_37 rfl 38 rfl ?_
      refine kX12_greater dX12_hearsOne_38 41 rfl hk_l0 kw7_130 (Nat.le_of_ble_eq_true rfl) (Nat.le_of_ble_eq_true rfl) h (fun r1 h => ?_)
      refine x_icmp_ge dX12_hearsOne_41 66 44 rfl rfl (fun hc => ?_) (fun hc => ?_)
      · have h := h.1 hc
        refine x_iconst dX12_hearsOne_66 kc_1 67 rfl ?_
        exact x_zret (z := true) dX12_hearsOne_67 ⟨rfl, h⟩
      · have h := h.2 hc
        refine x_aload_n dX12_hearsOne_44 rfl 45 rfl ?_
        refine gf12_1 dX12_hearsOne_45 48 rfl hk_l0 kw5_160 ?_
        refine x_bipush dX12_hearsOne_48 kb_63 50 rfl ?_
        refine x_iload dX12_hearsOne_50 rfl 52 rfl ?_
        refine x_iadd dX12_hearsOne_52 53 rfl ?_
        obtain ⟨hin, h⟩ := h
        refine x_iaload dX12_hearsOne_53 (ly12_1 hk_l0) hin 54 rfl ?_
        refine x_iload_n dX12_hearsOne_54 rfl 55 rfl ?_
        refine x_icmp_lt dX12_hearsOne_55 60 58 rfl rfl (fun hc => ?_) (fun hc => ?_)
        · have h := h.1 hc
          refine x_iinc dX12_hearsOne_60 rfl (congrArg (l4 + ·) kc_1) (Nat.le_of_ble_eq_true rfl) [(0, .ref l0), (1, .int l1), (2, .int l2), (3, .int l3), (4, .int (l4 + 1))] rfl 63 rfl ?_
          refine x_goto dX12_hearsOne_63 33 rfl ?_
          exact hB33 _ h
        · have h := h.2 hc
          refine x_iconst dX12_hearsOne_58 kc_0 59 rfl ?_
          exact x_zret (z := false) dX12_hearsOne_59 ⟨rfl, h⟩
  exact hB33 n l4 h
def FX12_hearsOne (Q : Bool → Prop) (l0 : Nat) (l1 : Int32) (l2 : Int32) (M : Mem) : Prop :=
  vp_in (63 + l1) 107 ∧ vp_in (63 + l2) 107 ∧ FX12_lesser (fun (r2 : Int32) => FX12_lesser (fun (r3 : Int32) => NX12_hearsOne_33 Q l0 l1 l2 r2 (r3 + 1) M) l0 l1 l2 M) l0 (M (l0 + 1) (ix (63 + l1))) (M (l0 + 1) (ix (63 + l2))) M
theorem eX12_hearsOne {Q : Bool → Prop} {l0 : Nat} {l1 : Int32} {l2 : Int32} {M : Mem} (hk_l0 : SHk l0 = 12) (h : FX12_hearsOne Q l0 l1 l2 M) : xX RX12 cX12_hearsOne 5 (some .boolean) 2 0 [(0, .ref l0), (1, .int l1), (2, .int l2)] [] M (xQb (xP M Q)) := by
  unfold FX12_hearsOne at h
  refine x_aload_n dX12_hearsOne_0 rfl 1 rfl ?_
  refine x_aload_n dX12_hearsOne_1 rfl 2 rfl ?_
  refine gf12_1 dX12_hearsOne_2 5 rfl hk_l0 kw5_160 ?_
  refine x_bipush dX12_hearsOne_5 kb_63 7 rfl ?_
  refine x_iload_n dX12_hearsOne_7 rfl 8 rfl ?_
  refine x_iadd dX12_hearsOne_8 9 rfl ?_
  obtain ⟨hin, h⟩ := h
  refine x_iaload dX12_hearsOne_9 (ly12_1 hk_l0) hin 10 rfl ?_
  refine x_aload_n dX12_hearsOne_10 rfl 11 rfl ?_
  refine gf12_1 dX12_hearsOne_11 14 rfl hk_l0 kw5_160 ?_
  refine x_bipush dX12_hearsOne_14 kb_63 16 rfl ?_
  refine x_iload_n dX12_hearsOne_16 rfl 17 rfl ?_
  refine x_iadd dX12_hearsOne_17 18 rfl ?_
  obtain ⟨hin, h⟩ := h
  refine x_iaload dX12_hearsOne_18 (ly12_1 hk_l0) hin 19 rfl ?_
  refine kX12_lesser dX12_hearsOne_19 22 rfl hk_l0 kw7_62 (Nat.le_of_ble_eq_true rfl) (Nat.le_of_ble_eq_true rfl) h (fun r2 h => ?_)
  refine x_istore_n dX12_hearsOne_22 (Nat.le_of_ble_eq_true rfl) [(0, .ref l0), (1, .int l1), (2, .int l2), (3, .int r2)] rfl 23 rfl ?_
  refine x_aload_n dX12_hearsOne_23 rfl 24 rfl ?_
  refine x_iload_n dX12_hearsOne_24 rfl 25 rfl ?_
  refine x_iload_n dX12_hearsOne_25 rfl 26 rfl ?_
  refine kX12_lesser dX12_hearsOne_26 29 rfl hk_l0 kw7_62 (Nat.le_of_ble_eq_true rfl) (Nat.le_of_ble_eq_true rfl) h (fun r3 h => ?_)
  refine x_iconst dX12_hearsOne_29 kc_1 30 rfl ?_
  refine x_iadd dX12_hearsOne_30 31 rfl ?_
  refine x_istore dX12_hearsOne_31 (Nat.le_of_ble_eq_true rfl) [(0, .ref l0), (1, .int l1), (2, .int l2), (3, .int r2), (4, .int (r3 + 1))] rfl 33 rfl ?_
  exact nX12_hearsOne_33 hk_l0 h
theorem cX12_hearsOne_ {Q : Bool → Prop} {l0 : Nat} {l1 : Int32} {l2 : Int32} {M : Mem} (hk_l0 : SHk l0 = 12) (h : FX12_hearsOne Q l0 l1 l2 M) : xM yX12_hearsOne cX12_hearsOne 5 (some .boolean) 2 [.ref l0, .int l1, .int l2] M (xQb (xP M Q)) := xM_of (by decide +kernel) (Nat.le_of_ble_eq_true rfl) (eX12_hearsOne hk_l0 h)
theorem kX12_hearsOne {own : String} {cc : ByteArray} {nL : Nat} {rt : Option FieldType} {d pc ix : Nat} {L : List (Nat × Value)} {st : List Value} {M : Mem} {Rt : xGt → Array Value → State → Outcome → State → Prop} {Q : Bool → Prop} {l0 : Nat} {l1 : Int32} {l2 : Int32} (hd : decode cc pc = .ok (.invokevirtual ix, 3)) (q : Nat) (hq : pc + 3 = q) (hk_l0 : SHk l0 = 12) (w1 : Cond.methodLink own ix yX12_hearsOne ∈ xTs) (hr : 2 < d) (hst : (st.map fun v => v.category).sum ≤ 8) (h : FX12_hearsOne Q l0 l1 l2 M) (k : ∀ (r : Bool), Q r → xX own cc nL rt d q L (.int (bI r) :: st) M Rt) : xX own cc nL rt d pc L (.int l2 :: .int l1 :: .ref l0 :: st) M Rt :=
  x_callV_b (n := 2) (As := [.int l1, .int l2]) hd q hq hk_l0 (by decide) rfl rfl w1 kw8_46 ks8_8 kw1_14 kw8_47 (by decide +kernel) rfl hr (by decide) hst _ rfl (cX12_hearsOne_ hk_l0 h) (fun r N hN => by obtain ⟨rfl, hN⟩ := hN; exact k r hN)
def lbX12_hears_33 (Q : Int32 → Mem → Prop) (l0 : Nat) (l1 : Int32) (l2 : Int32) (M : Mem) (B33 : Int32 → Int32 → Int32 → Prop) (l3 : Int32) (l4 : Int32) (l5 : Int32) : Prop :=
  (((M l0 6) ≤ l5 → ((¬ l2 = 0 → Q l4 M) ∧ (l2 = 0 → Q l3 M))) ∧ (¬ (M l0 6) ≤ l5 → ((l5 = l1 → B33 l3 l4 (l5 + 1)) ∧ (¬ l5 = l1 → FX12_hearsOne (fun (r1 : Bool) => ((r1 = true → ((l4 = (-1) → B33 (l3 + 1) l5 (l5 + 1)) ∧ (¬ l4 = (-1) → FX12_far (fun (r2 : Int32) => FX12_far (fun (r3 : Int32) => ((r2 ≤ r3 → B33 (l3 + 1) l4 (l5 + 1)) ∧ (¬ r2 ≤ r3 → B33 (l3 + 1) l5 (l5 + 1)))) l0 l4 l1 M) l0 l5 l1 M))) ∧ (r1 = false → B33 l3 l4 (l5 + 1)))) l0 l1 l5 M))))
def NX12_hears_33 (Q : Int32 → Mem → Prop) (l0 : Nat) (l1 : Int32) (l2 : Int32) (l3 : Int32) (l4 : Int32) (l5 : Int32) (M : Mem) : Prop := xlp (fun (B : Int32 × Int32 × Int32 → Prop) a => lbX12_hears_33 Q l0 l1 l2 M (fun l3 l4 l5 => B (l3, l4, l5)) a.1 a.2.1 a.2.2) (l3, l4, l5)
theorem nX12_hears_33 {Q : Int32 → Mem → Prop} {l0 : Nat} {l1 : Int32} {l2 : Int32} {l3 : Int32} {l4 : Int32} {l5 : Int32} {M : Mem} (hk_l0 : SHk l0 = 12) (h : NX12_hears_33 Q l0 l1 l2 l3 l4 l5 M) : xX RX12 cX12_hears 6 (some .int) 3 33 [(0, .ref l0), (1, .int l1), (2, .int l2), (3, .int l3), (4, .int l4), (5, .int l5)] [] M (xQi Q) := by
  obtain ⟨n, h⟩ := h
  have hB33 : ∀ (n : Nat) (l3 : Int32) (l4 : Int32) (l5 : Int32), xlpn (fun (B : Int32 × Int32 × Int32 → Prop) a => lbX12_hears_33 Q l0 l1 l2 M (fun l3 l4 l5 => B (l3, l4, l5)) a.1 a.2.1 a.2.2) n (l3, l4, l5) → xX RX12 cX12_hears 6 (some .int) 3 33 [(0, .ref l0), (1, .int l1), (2, .int l2), (3, .int l3), (4, .int l4), (5, .int l5)] [] M (xQi Q) := by
    intro n
    induction n with
    | zero => intro l3 l4 l5 h; exact False.elim h
    | succ n ih =>
      intro l3 l4 l5 h
      have hB33 := ih
      have h : lbX12_hears_33 Q l0 l1 l2 M (fun l3 l4 l5 => xlpn (fun (B : Int32 × Int32 × Int32 → Prop) a => lbX12_hears_33 Q l0 l1 l2 M (fun l3 l4 l5 => B (l3, l4, l5)) a.1 a.2.1 a.2.2) n (l3, l4, l5)) l3 l4 l5 := h
      unfold lbX12_hears_33 at h
      refine x_iload dX12_hears_33 rfl 35 rfl ?_
      refine x_aload_n dX12_hears_35 rfl 36 rfl ?_
      refine gf12_6 dX12_hears_36 39 rfl hk_l0 kw5_165 ?_
      refine x_icmp_ge dX12_hears_39 98 42 rfl rfl (fun hc => ?_) (fun hc => ?_)
      · have h := h.1 hc
        refine x_iload_n dX12_hears_98 rfl 99 rfl ?_
        refine x_if_ne dX12_hears_99 106 102 rfl rfl (fun hc => ?_) (fun hc => ?_)
        · have h := h.1 hc
          refine x_iload dX12_hears_106 rfl 108 rfl ?_
          exact x_iret dX12_hears_108 h
        · have h := h.2 hc
          refine x_iload_n dX12_hears_102 rfl 103 rfl ?_
          refine x_goto dX12_hears_103 108 rfl ?_
          exact x_iret dX12_hears_108 h
      · have h := h.2 hc
        refine x_iload dX12_hears_42 rfl 44 rfl ?_
        refine x_iload_n dX12_hears_44 rfl 45 rfl ?_
        refine x_icmp_eq dX12_hears_45 92 48 rfl rfl (fun hc => ?_) (fun hc => ?_)
        · have h := h.1 hc
          refine x_iinc dX12_hears_92 rfl (congrArg (l5 + ·) kc_1) (Nat.le_of_ble_eq_true rfl) [(0, .ref l0), (1, .int l1), (2, .int l2), (3, .int l3), (4, .int l4), (5, .int (l5 + 1))] rfl 95 rfl ?_
          refine x_goto dX12_hears_95 33 rfl ?_
          exact hB33 _ _ _ h
        · have h := h.2 hc
          refine x_aload_n dX12_hears_48 rfl 49 rfl ?_
          refine x_iload_n dX12_hears_49 rfl 50 rfl ?_
          refine x_iload dX12_hears_50 rfl 52 rfl ?_
          refine kX12_hearsOne dX12_hears_52 55 rfl hk_l0 kw8_44 (Nat.le_of_ble_eq_true rfl) (Nat.le_of_ble_eq_true rfl) h (fun r1 h => ?_)
          refine x_if_ne_b dX12_hears_55 61 58 rfl rfl (fun hc => ?_) (fun hc => ?_)
          · have h := h.1 hc
            refine x_iload_n dX12_hears_61 rfl 62 rfl ?_
            refine x_iconst dX12_hears_62 kc_1 63 rfl ?_
            refine x_iadd dX12_hears_63 64 rfl ?_
            refine x_istore_n dX12_hears_64 (Nat.le_of_ble_eq_true rfl) [(0, .ref l0), (1, .int l1), (2, .int l2), (3, .int (l3 + 1)), (4, .int l4), (5, .int l5)] rfl 65 rfl ?_
            refine x_iload dX12_hears_65 rfl 67 rfl ?_
            refine x_iconst dX12_hears_67 kc_m1 68 rfl ?_
            refine x_icmp_eq dX12_hears_68 88 71 rfl rfl (fun hc => ?_) (fun hc => ?_)
            · have h := h.1 hc
              refine x_iload dX12_hears_88 rfl 90 rfl ?_
              refine x_istore dX12_hears_90 (Nat.le_of_ble_eq_true rfl) [(0, .ref l0), (1, .int l1), (2, .int l2), (3, .int (l3 + 1)), (4, .int l5), (5, .int l5)] rfl 92 rfl ?_
              refine x_iinc dX12_hears_92 rfl (congrArg (l5 + ·) kc_1) (Nat.le_of_ble_eq_true rfl) [(0, .ref l0), (1, .int l1), (2, .int l2), (3, .int (l3 + 1)), (4, .int l5), (5, .int (l5 + 1))] rfl 95 rfl ?_
              refine x_goto dX12_hears_95 33 rfl ?_
              exact hB33 _ _ _ h
            · have h := h.2 hc
              refine x_aload_n dX12_hears_71 rfl 72 rfl ?_
              refine x_iload dX12_hears_72 rfl 74 rfl ?_
              refine x_iload_n dX12_hears_74 rfl 75 rfl ?_
              refine kX12_far dX12_hears_75 78 rfl hk_l0 kw8_2 (Nat.le_of_ble_eq_true rfl) (Nat.le_of_ble_eq_true rfl) h (fun r2 h => ?_)
              refine x_aload_n dX12_hears_78 rfl 79 rfl ?_
              refine x_iload dX12_hears_79 rfl 81 rfl ?_
              refine x_iload_n dX12_hears_81 rfl 82 rfl ?_
              refine kX12_far dX12_hears_82 85 rfl hk_l0 kw8_2 (Nat.le_of_ble_eq_true rfl) (Nat.le_of_ble_eq_true rfl) h (fun r3 h => ?_)
              refine x_icmp_le dX12_hears_85 92 88 rfl rfl (fun hc => ?_) (fun hc => ?_)
              · have h := h.1 hc
                refine x_iinc dX12_hears_92 rfl (congrArg (l5 + ·) kc_1) (Nat.le_of_ble_eq_true rfl) [(0, .ref l0), (1, .int l1), (2, .int l2), (3, .int (l3 + 1)), (4, .int l4), (5, .int (l5 + 1))] rfl 95 rfl ?_
                refine x_goto dX12_hears_95 33 rfl ?_
                exact hB33 _ _ _ h
              · have h := h.2 hc
                refine x_iload dX12_hears_88 rfl 90 rfl ?_
                refine x_istore dX12_hears_90 (Nat.le_of_ble_eq_true rfl) [(0, .ref l0), (1, .int l1), (2, .int l2), (3, .int (l3 + 1)), (4, .int l5), (5, .int l5)] rfl 92 rfl ?_
                refine x_iinc dX12_hears_92 rfl (congrArg (l5 + ·) kc_1) (Nat.le_of_ble_eq_true rfl) [(0, .ref l0), (1, .int l1), (2, .int l2), (3, .int (l3 + 1)), (4, .int l5), (5, .int (l5 + 1))] rfl 95 rfl ?_
                refine x_goto dX12_hears_95 33 rfl ?_
                exact hB33 _ _ _ h
          · have h := h.2 hc
            refine x_goto dX12_hears_58 92 rfl ?_
            refine x_iinc dX12_hears_92 rfl (congrArg (l5 + ·) kc_1) (Nat.le_of_ble_eq_true rfl) [(0, .ref l0), (1, .int l1), (2, .int l2), (3, .int l3), (4, .int l4), (5, .int (l5 + 1))] rfl 95 rfl ?_
            refine x_goto dX12_hears_95 33 rfl ?_
            exact hB33 _ _ _ h
  exact hB33 n l3 l4 l5 h
def FX12_hears (Q : Int32 → Mem → Prop) (l0 : Nat) (l1 : Int32) (l2 : Int32) (M : Mem) : Prop :=
  ∀ M4 : Mem, M4 = xu M l0 0 0 → FX12_isPillar (fun (r5 : Bool) => ((r5 = false → Q (-1) M4) ∧ (r5 = true → FX12_isIn (fun (r6 : Bool) => ((r6 = true → NX12_hears_33 Q l0 l1 l2 0 (-1) 0 M4) ∧ (r6 = false → Q (-1) M4))) l0 l2 0 1 M4))) l0 l1 M4
theorem eX12_hears {Q : Int32 → Mem → Prop} {l0 : Nat} {l1 : Int32} {l2 : Int32} {M : Mem} (hk_l0 : SHk l0 = 12) (h : FX12_hears Q l0 l1 l2 M) : xX RX12 cX12_hears 6 (some .int) 3 0 [(0, .ref l0), (1, .int l1), (2, .int l2)] [] M (xQi Q) := by
  unfold FX12_hears at h
  refine x_aload_n dX12_hears_0 rfl 1 rfl ?_
  refine x_iconst dX12_hears_1 kc_0 2 rfl ?_
  refine pf12_0 dX12_hears_2 5 rfl hk_l0 kw5_159 (x_mem (fun M4 hM4 => ?_))
  have h := h M4 hM4
  refine x_aload_n dX12_hears_5 rfl 6 rfl ?_
  refine x_iload_n dX12_hears_6 rfl 7 rfl ?_
  refine kX12_isPillar dX12_hears_7 10 rfl hk_l0 kw7_50 (Nat.le_of_ble_eq_true rfl) (Nat.le_of_ble_eq_true rfl) h (fun r5 h => ?_)
  refine x_if_eq_b dX12_hears_10 23 13 rfl rfl (fun hc => ?_) (fun hc => ?_)
  · have h := h.1 hc
    refine x_iconst dX12_hears_23 kc_m1 24 rfl ?_
    exact x_iret dX12_hears_24 h
  · have h := h.2 hc
    refine x_aload_n dX12_hears_13 rfl 14 rfl ?_
    refine x_iload_n dX12_hears_14 rfl 15 rfl ?_
    refine x_iconst dX12_hears_15 kc_0 16 rfl ?_
    refine x_iconst dX12_hears_16 kc_1 17 rfl ?_
    refine kX12_isIn dX12_hears_17 20 rfl hk_l0 kw6_82 (Nat.le_of_ble_eq_true rfl) (Nat.le_of_ble_eq_true rfl) h (fun r6 h => ?_)
    refine x_if_ne_b dX12_hears_20 25 23 rfl rfl (fun hc => ?_) (fun hc => ?_)
    · have h := h.1 hc
      refine x_iconst dX12_hears_25 kc_0 26 rfl ?_
      refine x_istore_n dX12_hears_26 (Nat.le_of_ble_eq_true rfl) [(0, .ref l0), (1, .int l1), (2, .int l2), (3, .int 0)] rfl 27 rfl ?_
      refine x_iconst dX12_hears_27 kc_m1 28 rfl ?_
      refine x_istore dX12_hears_28 (Nat.le_of_ble_eq_true rfl) [(0, .ref l0), (1, .int l1), (2, .int l2), (3, .int 0), (4, .int (-1))] rfl 30 rfl ?_
      refine x_iconst dX12_hears_30 kc_0 31 rfl ?_
      refine x_istore dX12_hears_31 (Nat.le_of_ble_eq_true rfl) [(0, .ref l0), (1, .int l1), (2, .int l2), (3, .int 0), (4, .int (-1)), (5, .int 0)] rfl 33 rfl ?_
      exact nX12_hears_33 hk_l0 h
    · have h := h.2 hc
      refine x_iconst dX12_hears_23 kc_m1 24 rfl ?_
      exact x_iret dX12_hears_24 h
theorem cX12_hears_ {Q : Int32 → Mem → Prop} {l0 : Nat} {l1 : Int32} {l2 : Int32} {M : Mem} (hk_l0 : SHk l0 = 12) (h : FX12_hears Q l0 l1 l2 M) : xM yX12_hears cX12_hears 6 (some .int) 3 [.ref l0, .int l1, .int l2] M (xQi Q) := xM_of (by decide +kernel) (Nat.le_of_ble_eq_true rfl) (eX12_hears hk_l0 h)
theorem kX12_hears {own : String} {cc : ByteArray} {nL : Nat} {rt : Option FieldType} {d pc ix : Nat} {L : List (Nat × Value)} {st : List Value} {M : Mem} {Rt : xGt → Array Value → State → Outcome → State → Prop} {Q : Int32 → Mem → Prop} {l0 : Nat} {l1 : Int32} {l2 : Int32} (hd : decode cc pc = .ok (.invokevirtual ix, 3)) (q : Nat) (hq : pc + 3 = q) (hk_l0 : SHk l0 = 12) (w1 : Cond.methodLink own ix yX12_hears ∈ xTs) (hr : 3 < d) (hst : (st.map fun v => v.category).sum ≤ 8) (h : FX12_hears Q l0 l1 l2 M) (k : ∀ (r : Int32) (N : Mem), Q r N → xX own cc nL rt d q L (.int r :: st) N Rt) : xX own cc nL rt d pc L (.int l2 :: .int l1 :: .ref l0 :: st) M Rt :=
  x_callV_i (n := 2) (As := [.int l1, .int l2]) hd q hq hk_l0 (by decide) rfl rfl w1 kw8_41 kw8_42 kw1_14 kw8_43 (by decide +kernel) rfl hr (by decide) hst _ rfl (cX12_hears_ hk_l0 h) k
def FX12_build (Q : Int32 → Mem → Prop) (l0 : Nat) (l1 : Int32) (l2 : Int32) (M : Mem) : Prop :=
  ∀ M1 : Mem, M1 = xu M l0 0 0 → ((¬ l1 = (-1) → FX12_isIn (fun (r2 : Bool) => ((r2 = false → Q (-1) M1) ∧ (r2 = true → FX12_isIn (fun (r3 : Bool) => ((r3 = false → Q (-1) M1) ∧ (r3 = true → ((¬ (M1 l0 41) = 7 → vp_in (M1 l0 41) 7 ∧ ∀ M4 : Mem, M4 = xu M1 (l0 + 21) (ix (M1 l0 41)) l1 → vp_in (M4 l0 41) 7 ∧ ∀ M5 : Mem, M5 = xu M4 (l0 + 22) (ix (M4 l0 41)) l2 → ∀ M6 : Mem, M6 = xu M5 l0 41 ((M5 l0 41) + 1) → Q (M6 l0 41) M6) ∧ ((M1 l0 41) = 7 → Q (-1) M1))))) l0 l2 1 30 M1))) l0 l1 1 30 M1) ∧ (l1 = (-1) → ∀ M7 : Mem, M7 = xu M1 l0 41 0 → Q 0 M7))
theorem eX12_build {Q : Int32 → Mem → Prop} {l0 : Nat} {l1 : Int32} {l2 : Int32} {M : Mem} (hk_l0 : SHk l0 = 12) (h : FX12_build Q l0 l1 l2 M) : xX RX12 cX12_build 3 (some .int) 2 0 [(0, .ref l0), (1, .int l1), (2, .int l2)] [] M (xQi Q) := by
  unfold FX12_build at h
  refine x_aload_n dX12_build_0 rfl 1 rfl ?_
  refine x_iconst dX12_build_1 kc_0 2 rfl ?_
  refine pf12_0 dX12_build_2 5 rfl hk_l0 kw5_159 (x_mem (fun M1 hM1 => ?_))
  have h := h M1 hM1
  refine x_iload_n dX12_build_5 rfl 6 rfl ?_
  refine x_iconst dX12_build_6 kc_m1 7 rfl ?_
  refine x_icmp_ne dX12_build_7 17 10 rfl rfl (fun hc => ?_) (fun hc => ?_)
  · have h := h.1 hc
    refine x_aload_n dX12_build_17 rfl 18 rfl ?_
    refine x_iload_n dX12_build_18 rfl 19 rfl ?_
    refine x_iconst dX12_build_19 kc_1 20 rfl ?_
    refine x_bipush dX12_build_20 kb_30 22 rfl ?_
    refine kX12_isIn dX12_build_22 25 rfl hk_l0 kw6_82 (Nat.le_of_ble_eq_true rfl) (Nat.le_of_ble_eq_true rfl) h (fun r2 h => ?_)
    refine x_if_eq_b dX12_build_25 48 28 rfl rfl (fun hc => ?_) (fun hc => ?_)
    · have h := h.1 hc
      refine x_iconst dX12_build_48 kc_m1 49 rfl ?_
      exact x_iret dX12_build_49 h
    · have h := h.2 hc
      refine x_aload_n dX12_build_28 rfl 29 rfl ?_
      refine x_iload_n dX12_build_29 rfl 30 rfl ?_
      refine x_iconst dX12_build_30 kc_1 31 rfl ?_
      refine x_bipush dX12_build_31 kb_30 33 rfl ?_
      refine kX12_isIn dX12_build_33 36 rfl hk_l0 kw6_82 (Nat.le_of_ble_eq_true rfl) (Nat.le_of_ble_eq_true rfl) h (fun r3 h => ?_)
      refine x_if_eq_b dX12_build_36 48 39 rfl rfl (fun hc => ?_) (fun hc => ?_)
      · have h := h.1 hc
        refine x_iconst dX12_build_48 kc_m1 49 rfl ?_
        exact x_iret dX12_build_49 h
      · have h := h.2 hc
        refine x_aload_n dX12_build_39 rfl 40 rfl ?_
        refine gf12_41 dX12_build_40 43 rfl hk_l0 kw5_200 ?_
        refine x_bipush dX12_build_43 kb_7 45 rfl ?_
        refine x_icmp_ne dX12_build_45 50 48 rfl rfl (fun hc => ?_) (fun hc => ?_)
        · have h := h.1 hc
          refine x_aload_n dX12_build_50 rfl 51 rfl ?_
          refine gf12_42 dX12_build_51 54 rfl hk_l0 kw5_201 ?_
          refine x_aload_n dX12_build_54 rfl 55 rfl ?_
          refine gf12_41 dX12_build_55 58 rfl hk_l0 kw5_200 ?_
          refine x_iload_n dX12_build_58 rfl 59 rfl ?_
          obtain ⟨hin, h⟩ := h
          refine x_iastore dX12_build_59 (ly12_42 hk_l0) hin 60 rfl (x_mem (fun M4 hM4 => ?_))
          have h := h M4 hM4
          refine x_aload_n dX12_build_60 rfl 61 rfl ?_
          refine gf12_43 dX12_build_61 64 rfl hk_l0 kw5_202 ?_
          refine x_aload_n dX12_build_64 rfl 65 rfl ?_
          refine gf12_41 dX12_build_65 68 rfl hk_l0 kw5_200 ?_
          refine x_iload_n dX12_build_68 rfl 69 rfl ?_
          obtain ⟨hin, h⟩ := h
          refine x_iastore dX12_build_69 (ly12_43 hk_l0) hin 70 rfl (x_mem (fun M5 hM5 => ?_))
          have h := h M5 hM5
          refine x_aload_n dX12_build_70 rfl 71 rfl ?_
          refine x_aload_n dX12_build_71 rfl 72 rfl ?_
          refine gf12_41 dX12_build_72 75 rfl hk_l0 kw5_200 ?_
          refine x_iconst dX12_build_75 kc_1 76 rfl ?_
          refine x_iadd dX12_build_76 77 rfl ?_
          refine pf12_41 dX12_build_77 80 rfl hk_l0 kw5_200 (x_mem (fun M6 hM6 => ?_))
          have h := h M6 hM6
          refine x_aload_n dX12_build_80 rfl 81 rfl ?_
          refine gf12_41 dX12_build_81 84 rfl hk_l0 kw5_200 ?_
          exact x_iret dX12_build_84 h
        · have h := h.2 hc
          refine x_iconst dX12_build_48 kc_m1 49 rfl ?_
          exact x_iret dX12_build_49 h
  · have h := h.2 hc
    refine x_aload_n dX12_build_10 rfl 11 rfl ?_
    refine x_iconst dX12_build_11 kc_0 12 rfl ?_
    refine pf12_41 dX12_build_12 15 rfl hk_l0 kw5_200 (x_mem (fun M7 hM7 => ?_))
    have h := h M7 hM7
    refine x_iconst dX12_build_15 kc_0 16 rfl ?_
    exact x_iret dX12_build_16 h
theorem cX12_build_ {Q : Int32 → Mem → Prop} {l0 : Nat} {l1 : Int32} {l2 : Int32} {M : Mem} (hk_l0 : SHk l0 = 12) (h : FX12_build Q l0 l1 l2 M) : xM yX12_build cX12_build 3 (some .int) 2 [.ref l0, .int l1, .int l2] M (xQi Q) := xM_of (by decide +kernel) (Nat.le_of_ble_eq_true rfl) (eX12_build hk_l0 h)
theorem kX12_build {own : String} {cc : ByteArray} {nL : Nat} {rt : Option FieldType} {d pc ix : Nat} {L : List (Nat × Value)} {st : List Value} {M : Mem} {Rt : xGt → Array Value → State → Outcome → State → Prop} {Q : Int32 → Mem → Prop} {l0 : Nat} {l1 : Int32} {l2 : Int32} (hd : decode cc pc = .ok (.invokevirtual ix, 3)) (q : Nat) (hq : pc + 3 = q) (hk_l0 : SHk l0 = 12) (w1 : Cond.methodLink own ix yX12_build ∈ xTs) (hr : 2 < d) (hst : (st.map fun v => v.category).sum ≤ 8) (h : FX12_build Q l0 l1 l2 M) (k : ∀ (r : Int32) (N : Mem), Q r N → xX own cc nL rt d q L (.int r :: st) N Rt) : xX own cc nL rt d pc L (.int l2 :: .int l1 :: .ref l0 :: st) M Rt :=
  x_callV_i (n := 2) (As := [.int l1, .int l2]) hd q hq hk_l0 (by decide) rfl rfl w1 kw8_49 kw8_50 kw1_14 kw8_51 (by decide +kernel) rfl hr (by decide) hst _ rfl (cX12_build_ hk_l0 h) k
def FX12_isAhead (Q : Bool → Prop) (l0 : Nat) (l1 : Int32) (l2 : Int32) (M : Mem) : Prop :=
  vp_in l1 7 ∧ vp_in l2 7 ∧ ∀ y1 : Int32, y1 = (M (l0 + 22) (ix l1)) * (M (l0 + 21) (ix l2)) → vp_in l2 7 ∧ vp_in l1 7 ∧ ∀ y2 : Int32, y2 = (M (l0 + 22) (ix l2)) * (M (l0 + 21) (ix l1)) → ((y2 < y1 → Q true) ∧ (¬ y2 < y1 → ((¬ y1 = y2 → Q false) ∧ (y1 = y2 → ((l2 ≤ l1 → Q false) ∧ (¬ l2 ≤ l1 → Q true))))))
theorem eX12_isAhead {Q : Bool → Prop} {l0 : Nat} {l1 : Int32} {l2 : Int32} {M : Mem} (hk_l0 : SHk l0 = 12) (h : FX12_isAhead Q l0 l1 l2 M) : xX RX12 cX12_isAhead 5 (some .boolean) 1 0 [(0, .ref l0), (1, .int l1), (2, .int l2)] [] M (xQb (xP M Q)) := by
  unfold FX12_isAhead at h
  refine x_aload_n dX12_isAhead_0 rfl 1 rfl ?_
  refine gf12_43 dX12_isAhead_1 4 rfl hk_l0 kw5_202 ?_
  refine x_iload_n dX12_isAhead_4 rfl 5 rfl ?_
  obtain ⟨hin, h⟩ := h
  refine x_iaload dX12_isAhead_5 (ly12_43 hk_l0) hin 6 rfl ?_
  refine x_aload_n dX12_isAhead_6 rfl 7 rfl ?_
  refine gf12_42 dX12_isAhead_7 10 rfl hk_l0 kw5_201 ?_
  refine x_iload_n dX12_isAhead_10 rfl 11 rfl ?_
  obtain ⟨hin, h⟩ := h
  refine x_iaload dX12_isAhead_11 (ly12_42 hk_l0) hin 12 rfl ?_
  refine x_imul dX12_isAhead_12 13 rfl ?_
  refine x_top (fun y1 hy1 => ?_)
  have h := h y1 hy1
  refine x_istore_n dX12_isAhead_13 (Nat.le_of_ble_eq_true rfl) [(0, .ref l0), (1, .int l1), (2, .int l2), (3, .int y1)] rfl 14 rfl ?_
  refine x_aload_n dX12_isAhead_14 rfl 15 rfl ?_
  refine gf12_43 dX12_isAhead_15 18 rfl hk_l0 kw5_202 ?_
  refine x_iload_n dX12_isAhead_18 rfl 19 rfl ?_
  obtain ⟨hin, h⟩ := h
  refine x_iaload dX12_isAhead_19 (ly12_43 hk_l0) hin 20 rfl ?_
  refine x_aload_n dX12_isAhead_20 rfl 21 rfl ?_
  refine gf12_42 dX12_isAhead_21 24 rfl hk_l0 kw5_201 ?_
  refine x_iload_n dX12_isAhead_24 rfl 25 rfl ?_
  obtain ⟨hin, h⟩ := h
  refine x_iaload dX12_isAhead_25 (ly12_42 hk_l0) hin 26 rfl ?_
  refine x_imul dX12_isAhead_26 27 rfl ?_
  refine x_top (fun y2 hy2 => ?_)
  have h := h y2 hy2
  refine x_istore dX12_isAhead_27 (Nat.le_of_ble_eq_true rfl) [(0, .ref l0), (1, .int l1), (2, .int l2), (3, .int y1), (4, .int y2)] rfl 29 rfl ?_
  refine x_iload_n dX12_isAhead_29 rfl 30 rfl ?_
  refine x_iload dX12_isAhead_30 rfl 32 rfl ?_
  refine x_icmp_gt dX12_isAhead_32 46 35 rfl rfl (fun hc => ?_) (fun hc => ?_)
  · have h := h.1 hc
    refine x_iconst dX12_isAhead_46 kc_1 47 rfl ?_
    refine x_goto dX12_isAhead_47 51 rfl ?_
    exact x_zret (z := true) dX12_isAhead_51 ⟨rfl, h⟩
  · have h := h.2 hc
    refine x_iload_n dX12_isAhead_35 rfl 36 rfl ?_
    refine x_iload dX12_isAhead_36 rfl 38 rfl ?_
    refine x_icmp_ne dX12_isAhead_38 50 41 rfl rfl (fun hc => ?_) (fun hc => ?_)
    · have h := h.1 hc
      refine x_iconst dX12_isAhead_50 kc_0 51 rfl ?_
      exact x_zret (z := false) dX12_isAhead_51 ⟨rfl, h⟩
    · have h := h.2 hc
      refine x_iload_n dX12_isAhead_41 rfl 42 rfl ?_
      refine x_iload_n dX12_isAhead_42 rfl 43 rfl ?_
      refine x_icmp_ge dX12_isAhead_43 50 46 rfl rfl (fun hc => ?_) (fun hc => ?_)
      · have h := h.1 hc
        refine x_iconst dX12_isAhead_50 kc_0 51 rfl ?_
        exact x_zret (z := false) dX12_isAhead_51 ⟨rfl, h⟩
      · have h := h.2 hc
        refine x_iconst dX12_isAhead_46 kc_1 47 rfl ?_
        refine x_goto dX12_isAhead_47 51 rfl ?_
        exact x_zret (z := true) dX12_isAhead_51 ⟨rfl, h⟩
theorem cX12_isAhead_ {Q : Bool → Prop} {l0 : Nat} {l1 : Int32} {l2 : Int32} {M : Mem} (hk_l0 : SHk l0 = 12) (h : FX12_isAhead Q l0 l1 l2 M) : xM yX12_isAhead cX12_isAhead 5 (some .boolean) 1 [.ref l0, .int l1, .int l2] M (xQb (xP M Q)) := xM_of (by decide +kernel) (Nat.le_of_ble_eq_true rfl) (eX12_isAhead hk_l0 h)
theorem kX12_isAhead {own : String} {cc : ByteArray} {nL : Nat} {rt : Option FieldType} {d pc ix : Nat} {L : List (Nat × Value)} {st : List Value} {M : Mem} {Rt : xGt → Array Value → State → Outcome → State → Prop} {Q : Bool → Prop} {l0 : Nat} {l1 : Int32} {l2 : Int32} (hd : decode cc pc = .ok (.invokevirtual ix, 3)) (q : Nat) (hq : pc + 3 = q) (hk_l0 : SHk l0 = 12) (w1 : Cond.methodLink own ix yX12_isAhead ∈ xTs) (hr : 1 < d) (hst : (st.map fun v => v.category).sum ≤ 8) (h : FX12_isAhead Q l0 l1 l2 M) (k : ∀ (r : Bool), Q r → xX own cc nL rt d q L (.int (bI r) :: st) M Rt) : xX own cc nL rt d pc L (.int l2 :: .int l1 :: .ref l0 :: st) M Rt :=
  x_callV_b (n := 2) (As := [.int l1, .int l2]) hd q hq hk_l0 (by decide) rfl rfl w1 kw8_58 ks8_9 kw1_14 kw8_59 (by decide +kernel) rfl hr (by decide) hst _ rfl (cX12_isAhead_ hk_l0 h) (fun r N hN => by obtain ⟨rfl, hN⟩ := hN; exact k r hN)
def lbX12_builds_54 (Q : Int32 → Mem → Prop) (B32 : Int32 → Int32 → Prop) (l0 : Nat) (l1 : Int32) (l2 : Int32) (l3 : Int32) (M : Mem) (B54 : Int32 → Int32 → Int32 → Prop) (l4 : Int32) (l5 : Int32) (l6 : Int32) : Prop :=
  (((M l0 41) ≤ l6 → ((¬ l5 = (l1 - 10) → vp_in l3 7 ∧ ∀ y1 : Int32, y1 = l2 + ((M (l0 + 22) (ix l3)) * l4) → B32 y1 (l3 + 1)) ∧ (l5 = (l1 - 10) → Q l3 M))) ∧ (¬ (M l0 41) ≤ l6 → ((l6 = l3 → B54 l4 l5 (l6 + 1)) ∧ (¬ l6 = l3 → FX12_isAhead (fun (r2 : Bool) => ((r2 = true → vp_in l6 7 ∧ ∀ y3 : Int32, y3 = l4 + (M (l0 + 21) (ix l6)) → B54 y3 (l5 + 1) (l6 + 1)) ∧ (r2 = false → B54 l4 l5 (l6 + 1)))) l0 l6 l3 M))))
def NX12_builds_54 (Q : Int32 → Mem → Prop) (B32 : Int32 → Int32 → Prop) (l0 : Nat) (l1 : Int32) (l2 : Int32) (l3 : Int32) (l4 : Int32) (l5 : Int32) (l6 : Int32) (M : Mem) : Prop := xlp (fun (B : Int32 × Int32 × Int32 → Prop) a => lbX12_builds_54 Q B32 l0 l1 l2 l3 M (fun l4 l5 l6 => B (l4, l5, l6)) a.1 a.2.1 a.2.2) (l4, l5, l6)
theorem nX12_builds_54 {Q : Int32 → Mem → Prop} {B32 : Int32 → Int32 → Prop} {l0 : Nat} {l1 : Int32} {l2 : Int32} {l3 : Int32} {l4 : Int32} {l5 : Int32} {l6 : Int32} {M : Mem} (hB32 : ∀ (l2 : Int32) (l3 : Int32), B32 l2 l3 → xX RX12 cX12_builds 7 (some .int) 2 32 [(0, .ref l0), (1, .int l1), (2, .int l2), (3, .int l3)] [] M (xQi Q)) (hk_l0 : SHk l0 = 12) (h : NX12_builds_54 Q B32 l0 l1 l2 l3 l4 l5 l6 M) : xX RX12 cX12_builds 7 (some .int) 2 54 [(0, .ref l0), (1, .int l1), (2, .int l2), (3, .int l3), (4, .int l4), (5, .int l5), (6, .int l6)] [] M (xQi Q) := by
  obtain ⟨n, h⟩ := h
  have hB54 : ∀ (n : Nat) (l4 : Int32) (l5 : Int32) (l6 : Int32), xlpn (fun (B : Int32 × Int32 × Int32 → Prop) a => lbX12_builds_54 Q B32 l0 l1 l2 l3 M (fun l4 l5 l6 => B (l4, l5, l6)) a.1 a.2.1 a.2.2) n (l4, l5, l6) → xX RX12 cX12_builds 7 (some .int) 2 54 [(0, .ref l0), (1, .int l1), (2, .int l2), (3, .int l3), (4, .int l4), (5, .int l5), (6, .int l6)] [] M (xQi Q) := by
    intro n
    induction n with
    | zero => intro l4 l5 l6 h; exact False.elim h
    | succ n ih =>
      intro l4 l5 l6 h
      have hB54 := ih
      have h : lbX12_builds_54 Q B32 l0 l1 l2 l3 M (fun l4 l5 l6 => xlpn (fun (B : Int32 × Int32 × Int32 → Prop) a => lbX12_builds_54 Q B32 l0 l1 l2 l3 M (fun l4 l5 l6 => B (l4, l5, l6)) a.1 a.2.1 a.2.2) n (l4, l5, l6)) l4 l5 l6 := h
      unfold lbX12_builds_54 at h
      refine x_iload dX12_builds_54 rfl 56 rfl ?_
      refine x_aload_n dX12_builds_56 rfl 57 rfl ?_
      refine gf12_41 dX12_builds_57 60 rfl hk_l0 kw5_200 ?_
      refine x_icmp_ge dX12_builds_60 106 63 rfl rfl (fun hc => ?_) (fun hc => ?_)
      · have h := h.1 hc
        refine x_iload dX12_builds_106 rfl 108 rfl ?_
        refine x_iload_n dX12_builds_108 rfl 109 rfl ?_
        refine x_bipush dX12_builds_109 kb_10 111 rfl ?_
        refine x_isub dX12_builds_111 112 rfl ?_
        refine x_icmp_ne dX12_builds_112 117 115 rfl rfl (fun hc => ?_) (fun hc => ?_)
        · have h := h.1 hc
          refine x_iload_n dX12_builds_117 rfl 118 rfl ?_
          refine x_aload_n dX12_builds_118 rfl 119 rfl ?_
          refine gf12_43 dX12_builds_119 122 rfl hk_l0 kw5_202 ?_
          refine x_iload_n dX12_builds_122 rfl 123 rfl ?_
          obtain ⟨hin, h⟩ := h
          refine x_iaload dX12_builds_123 (ly12_43 hk_l0) hin 124 rfl ?_
          refine x_iload dX12_builds_124 rfl 126 rfl ?_
          refine x_imul dX12_builds_126 127 rfl ?_
          refine x_iadd dX12_builds_127 128 rfl ?_
          refine x_top (fun y1 hy1 => ?_)
          have h := h y1 hy1
          refine x_istore_n dX12_builds_128 (Nat.le_of_ble_eq_true rfl) [(0, .ref l0), (1, .int l1), (2, .int y1), (3, .int l3), (4, .int l4), (5, .int l5), (6, .int l6)] rfl 129 rfl ?_
          refine x_iinc dX12_builds_129 rfl (congrArg (l3 + ·) kc_1) (Nat.le_of_ble_eq_true rfl) [(0, .ref l0), (1, .int l1), (2, .int y1), (3, .int (l3 + 1)), (4, .int l4), (5, .int l5), (6, .int l6)] rfl 132 rfl ?_
          refine x_goto dX12_builds_132 32 rfl ?_
          refine x_weak [(0, .ref l0), (1, .int l1), (2, .int y1), (3, .int (l3 + 1))] [0, 1, 2, 3] rfl ?_
          exact hB32 _ _ h
        · have h := h.2 hc
          refine x_iload_n dX12_builds_115 rfl 116 rfl ?_
          exact x_iret dX12_builds_116 h
      · have h := h.2 hc
        refine x_iload dX12_builds_63 rfl 65 rfl ?_
        refine x_iload_n dX12_builds_65 rfl 66 rfl ?_
        refine x_icmp_eq dX12_builds_66 100 69 rfl rfl (fun hc => ?_) (fun hc => ?_)
        · have h := h.1 hc
          refine x_iinc dX12_builds_100 rfl (congrArg (l6 + ·) kc_1) (Nat.le_of_ble_eq_true rfl) [(0, .ref l0), (1, .int l1), (2, .int l2), (3, .int l3), (4, .int l4), (5, .int l5), (6, .int (l6 + 1))] rfl 103 rfl ?_
          refine x_goto dX12_builds_103 54 rfl ?_
          exact hB54 _ _ _ h
        · have h := h.2 hc
          refine x_aload_n dX12_builds_69 rfl 70 rfl ?_
          refine x_iload dX12_builds_70 rfl 72 rfl ?_
          refine x_iload_n dX12_builds_72 rfl 73 rfl ?_
          refine kX12_isAhead dX12_builds_73 76 rfl hk_l0 kw8_56 (Nat.le_of_ble_eq_true rfl) (Nat.le_of_ble_eq_true rfl) h (fun r2 h => ?_)
          refine x_if_ne_b dX12_builds_76 82 79 rfl rfl (fun hc => ?_) (fun hc => ?_)
          · have h := h.1 hc
            refine x_iload dX12_builds_82 rfl 84 rfl ?_
            refine x_aload_n dX12_builds_84 rfl 85 rfl ?_
            refine gf12_42 dX12_builds_85 88 rfl hk_l0 kw5_201 ?_
            refine x_iload dX12_builds_88 rfl 90 rfl ?_
            obtain ⟨hin, h⟩ := h
            refine x_iaload dX12_builds_90 (ly12_42 hk_l0) hin 91 rfl ?_
            refine x_iadd dX12_builds_91 92 rfl ?_
            refine x_top (fun y3 hy3 => ?_)
            have h := h y3 hy3
            refine x_istore dX12_builds_92 (Nat.le_of_ble_eq_true rfl) [(0, .ref l0), (1, .int l1), (2, .int l2), (3, .int l3), (4, .int y3), (5, .int l5), (6, .int l6)] rfl 94 rfl ?_
            refine x_iload dX12_builds_94 rfl 96 rfl ?_
            refine x_iconst dX12_builds_96 kc_1 97 rfl ?_
            refine x_iadd dX12_builds_97 98 rfl ?_
            refine x_istore dX12_builds_98 (Nat.le_of_ble_eq_true rfl) [(0, .ref l0), (1, .int l1), (2, .int l2), (3, .int l3), (4, .int y3), (5, .int (l5 + 1)), (6, .int l6)] rfl 100 rfl ?_
            refine x_iinc dX12_builds_100 rfl (congrArg (l6 + ·) kc_1) (Nat.le_of_ble_eq_true rfl) [(0, .ref l0), (1, .int l1), (2, .int l2), (3, .int l3), (4, .int y3), (5, .int (l5 + 1)), (6, .int (l6 + 1))] rfl 103 rfl ?_
            refine x_goto dX12_builds_103 54 rfl ?_
            exact hB54 _ _ _ h
          · have h := h.2 hc
            refine x_goto dX12_builds_79 100 rfl ?_
            refine x_iinc dX12_builds_100 rfl (congrArg (l6 + ·) kc_1) (Nat.le_of_ble_eq_true rfl) [(0, .ref l0), (1, .int l1), (2, .int l2), (3, .int l3), (4, .int l4), (5, .int l5), (6, .int (l6 + 1))] rfl 103 rfl ?_
            refine x_goto dX12_builds_103 54 rfl ?_
            exact hB54 _ _ _ h
  exact hB54 n l4 l5 l6 h
def lbX12_builds_32 (Q : Int32 → Mem → Prop) (l0 : Nat) (l1 : Int32) (M : Mem) (B32 : Int32 → Int32 → Prop) (l2 : Int32) (l3 : Int32) : Prop :=
  (((M l0 41) ≤ l3 → Q l2 M) ∧ (¬ (M l0 41) ≤ l3 → vp_in l3 7 ∧ ∀ y4 : Int32, y4 = M (l0 + 21) (ix l3) → NX12_builds_54 Q B32 l0 l1 l2 l3 y4 0 0 M))
def NX12_builds_32 (Q : Int32 → Mem → Prop) (l0 : Nat) (l1 : Int32) (l2 : Int32) (l3 : Int32) (M : Mem) : Prop := xlp (fun (B : Int32 × Int32 → Prop) a => lbX12_builds_32 Q l0 l1 M (fun l2 l3 => B (l2, l3)) a.1 a.2) (l2, l3)
theorem nX12_builds_32 {Q : Int32 → Mem → Prop} {l0 : Nat} {l1 : Int32} {l2 : Int32} {l3 : Int32} {M : Mem} (hk_l0 : SHk l0 = 12) (h : NX12_builds_32 Q l0 l1 l2 l3 M) : xX RX12 cX12_builds 7 (some .int) 2 32 [(0, .ref l0), (1, .int l1), (2, .int l2), (3, .int l3)] [] M (xQi Q) := by
  obtain ⟨n, h⟩ := h
  have hB32 : ∀ (n : Nat) (l2 : Int32) (l3 : Int32), xlpn (fun (B : Int32 × Int32 → Prop) a => lbX12_builds_32 Q l0 l1 M (fun l2 l3 => B (l2, l3)) a.1 a.2) n (l2, l3) → xX RX12 cX12_builds 7 (some .int) 2 32 [(0, .ref l0), (1, .int l1), (2, .int l2), (3, .int l3)] [] M (xQi Q) := by
    intro n
    induction n with
    | zero => intro l2 l3 h; exact False.elim h
    | succ n ih =>
      intro l2 l3 h
      have hB32 := ih
      have h : lbX12_builds_32 Q l0 l1 M (fun l2 l3 => xlpn (fun (B : Int32 × Int32 → Prop) a => lbX12_builds_32 Q l0 l1 M (fun l2 l3 => B (l2, l3)) a.1 a.2) n (l2, l3)) l2 l3 := h
      unfold lbX12_builds_32 at h
      refine x_iload_n dX12_builds_32 rfl 33 rfl ?_
      refine x_aload_n dX12_builds_33 rfl 34 rfl ?_
      refine gf12_41 dX12_builds_34 37 rfl hk_l0 kw5_200 ?_
      refine x_icmp_ge dX12_builds_37 135 40 rfl rfl (fun hc => ?_) (fun hc => ?_)
      · have h := h.1 hc
        refine x_iload_n dX12_builds_135 rfl 136 rfl ?_
        exact x_iret dX12_builds_136 h
      · have h := h.2 hc
        refine x_aload_n dX12_builds_40 rfl 41 rfl ?_
        refine gf12_42 dX12_builds_41 44 rfl hk_l0 kw5_201 ?_
        refine x_iload_n dX12_builds_44 rfl 45 rfl ?_
        obtain ⟨hin, h⟩ := h
        refine x_iaload dX12_builds_45 (ly12_42 hk_l0) hin 46 rfl ?_
        refine x_top (fun y4 hy4 => ?_)
        have h := h y4 hy4
        refine x_istore dX12_builds_46 (Nat.le_of_ble_eq_true rfl) [(0, .ref l0), (1, .int l1), (2, .int l2), (3, .int l3), (4, .int y4)] rfl 48 rfl ?_
        refine x_iconst dX12_builds_48 kc_0 49 rfl ?_
        refine x_istore dX12_builds_49 (Nat.le_of_ble_eq_true rfl) [(0, .ref l0), (1, .int l1), (2, .int l2), (3, .int l3), (4, .int y4), (5, .int 0)] rfl 51 rfl ?_
        refine x_iconst dX12_builds_51 kc_0 52 rfl ?_
        refine x_istore dX12_builds_52 (Nat.le_of_ble_eq_true rfl) [(0, .ref l0), (1, .int l1), (2, .int l2), (3, .int l3), (4, .int y4), (5, .int 0), (6, .int 0)] rfl 54 rfl ?_
        exact nX12_builds_54 hB32 hk_l0 h
  exact hB32 n l2 l3 h
def FX12_builds (Q : Int32 → Mem → Prop) (l0 : Nat) (l1 : Int32) (M : Mem) : Prop :=
  ∀ M5 : Mem, M5 = xu M l0 0 0 → ((l1 = 0 → NX12_builds_32 Q l0 l1 0 0 M5) ∧ (¬ l1 = 0 → FX12_isIn (fun (r6 : Bool) => ((r6 = true → NX12_builds_32 Q l0 l1 0 0 M5) ∧ (r6 = false → Q (-1) M5))) l0 l1 10 (9 + (M5 l0 41)) M5))
theorem eX12_builds {Q : Int32 → Mem → Prop} {l0 : Nat} {l1 : Int32} {M : Mem} (hk_l0 : SHk l0 = 12) (h : FX12_builds Q l0 l1 M) : xX RX12 cX12_builds 7 (some .int) 2 0 [(0, .ref l0), (1, .int l1)] [] M (xQi Q) := by
  unfold FX12_builds at h
  refine x_aload_n dX12_builds_0 rfl 1 rfl ?_
  refine x_iconst dX12_builds_1 kc_0 2 rfl ?_
  refine pf12_0 dX12_builds_2 5 rfl hk_l0 kw5_159 (x_mem (fun M5 hM5 => ?_))
  have h := h M5 hM5
  refine x_iload_n dX12_builds_5 rfl 6 rfl ?_
  refine x_if_eq dX12_builds_6 28 9 rfl rfl (fun hc => ?_) (fun hc => ?_)
  · have h := h.1 hc
    refine x_iconst dX12_builds_28 kc_0 29 rfl ?_
    refine x_istore_n dX12_builds_29 (Nat.le_of_ble_eq_true rfl) [(0, .ref l0), (1, .int l1), (2, .int 0)] rfl 30 rfl ?_
    refine x_iconst dX12_builds_30 kc_0 31 rfl ?_
    refine x_istore_n dX12_builds_31 (Nat.le_of_ble_eq_true rfl) [(0, .ref l0), (1, .int l1), (2, .int 0), (3, .int 0)] rfl 32 rfl ?_
    exact nX12_builds_32 hk_l0 h
  · have h := h.2 hc
    refine x_aload_n dX12_builds_9 rfl 10 rfl ?_
    refine x_iload_n dX12_builds_10 rfl 11 rfl ?_
    refine x_bipush dX12_builds_11 kb_10 13 rfl ?_
    refine x_bipush dX12_builds_13 kb_9 15 rfl ?_
    refine x_aload_n dX12_builds_15 rfl 16 rfl ?_
    refine gf12_41 dX12_builds_16 19 rfl hk_l0 kw5_200 ?_
    refine x_iadd dX12_builds_19 20 rfl ?_
    refine kX12_isIn dX12_builds_20 23 rfl hk_l0 kw6_82 (Nat.le_of_ble_eq_true rfl) (Nat.le_of_ble_eq_true rfl) h (fun r6 h => ?_)
    refine x_if_ne_b dX12_builds_23 28 26 rfl rfl (fun hc => ?_) (fun hc => ?_)
    · have h := h.1 hc
      refine x_iconst dX12_builds_28 kc_0 29 rfl ?_
      refine x_istore_n dX12_builds_29 (Nat.le_of_ble_eq_true rfl) [(0, .ref l0), (1, .int l1), (2, .int 0)] rfl 30 rfl ?_
      refine x_iconst dX12_builds_30 kc_0 31 rfl ?_
      refine x_istore_n dX12_builds_31 (Nat.le_of_ble_eq_true rfl) [(0, .ref l0), (1, .int l1), (2, .int 0), (3, .int 0)] rfl 32 rfl ?_
      exact nX12_builds_32 hk_l0 h
    · have h := h.2 hc
      refine x_iconst dX12_builds_26 kc_m1 27 rfl ?_
      exact x_iret dX12_builds_27 h
theorem cX12_builds_ {Q : Int32 → Mem → Prop} {l0 : Nat} {l1 : Int32} {M : Mem} (hk_l0 : SHk l0 = 12) (h : FX12_builds Q l0 l1 M) : xM yX12_builds cX12_builds 7 (some .int) 2 [.ref l0, .int l1] M (xQi Q) := xM_of (by decide +kernel) (Nat.le_of_ble_eq_true rfl) (eX12_builds hk_l0 h)
theorem kX12_builds {own : String} {cc : ByteArray} {nL : Nat} {rt : Option FieldType} {d pc ix : Nat} {L : List (Nat × Value)} {st : List Value} {M : Mem} {Rt : xGt → Array Value → State → Outcome → State → Prop} {Q : Int32 → Mem → Prop} {l0 : Nat} {l1 : Int32} (hd : decode cc pc = .ok (.invokevirtual ix, 3)) (q : Nat) (hq : pc + 3 = q) (hk_l0 : SHk l0 = 12) (w1 : Cond.methodLink own ix yX12_builds ∈ xTs) (hr : 2 < d) (hst : (st.map fun v => v.category).sum ≤ 8) (h : FX12_builds Q l0 l1 M) (k : ∀ (r : Int32) (N : Mem), Q r N → xX own cc nL rt d q L (.int r :: st) N Rt) : xX own cc nL rt d pc L (.int l1 :: .ref l0 :: st) M Rt :=
  x_callV_i (n := 1) (As := [.int l1]) hd q hq hk_l0 (by decide) rfl rfl w1 kw8_53 kw8_54 kw1_14 kw8_55 (by decide +kernel) rfl hr (by decide) hst _ rfl (cX12_builds_ hk_l0 h) k
def lbX12_shareOf_12 (Q : Int32 → Prop) (l2 : Int32) (M : Mem) (B12 : Int32 → Int32 → Int32 → Prop) (l3 : Int32) (l4 : Int32) (l5 : Int32) : Prop :=
  ((6 ≤ l5 → Q l3) ∧ (¬ 6 ≤ l5 → (¬ (l2 : Int32) = 0) ∧ ∀ y1 : Int32, y1 = (10 * l3) + ((l4 * 10) / l2) → (¬ (l2 : Int32) = 0) ∧ ∀ y2 : Int32, y2 = (l4 * 10) - (l4 * 10) / l2 * l2 → B12 y1 y2 (l5 + 1)))
def NX12_shareOf_12 (Q : Int32 → Prop) (l2 : Int32) (l3 : Int32) (l4 : Int32) (l5 : Int32) (M : Mem) : Prop := xlp (fun (B : Int32 × Int32 × Int32 → Prop) a => lbX12_shareOf_12 Q l2 M (fun l3 l4 l5 => B (l3, l4, l5)) a.1 a.2.1 a.2.2) (l3, l4, l5)
theorem nX12_shareOf_12 {Q : Int32 → Prop} {l2 : Int32} {l3 : Int32} {l4 : Int32} {l5 : Int32} {M : Mem} (h : NX12_shareOf_12 Q l2 l3 l4 l5 M) : xX RX12 cX12_shareOf 6 (some .int) 1 12 [(2, .int l2), (3, .int l3), (4, .int l4), (5, .int l5)] [] M (xQi (xP M Q)) := by
  obtain ⟨n, h⟩ := h
  have hB12 : ∀ (n : Nat) (l3 : Int32) (l4 : Int32) (l5 : Int32), xlpn (fun (B : Int32 × Int32 × Int32 → Prop) a => lbX12_shareOf_12 Q l2 M (fun l3 l4 l5 => B (l3, l4, l5)) a.1 a.2.1 a.2.2) n (l3, l4, l5) → xX RX12 cX12_shareOf 6 (some .int) 1 12 [(2, .int l2), (3, .int l3), (4, .int l4), (5, .int l5)] [] M (xQi (xP M Q)) := by
    intro n
    induction n with
    | zero => intro l3 l4 l5 h; exact False.elim h
    | succ n ih =>
      intro l3 l4 l5 h
      have hB12 := ih
      have h : lbX12_shareOf_12 Q l2 M (fun l3 l4 l5 => xlpn (fun (B : Int32 × Int32 × Int32 → Prop) a => lbX12_shareOf_12 Q l2 M (fun l3 l4 l5 => B (l3, l4, l5)) a.1 a.2.1 a.2.2) n (l3, l4, l5)) l3 l4 l5 := h
      unfold lbX12_shareOf_12 at h
      refine x_iload dX12_shareOf_12 rfl 14 rfl ?_
      refine x_bipush dX12_shareOf_14 kb_6 16 rfl ?_
      refine x_icmp_ge dX12_shareOf_16 48 19 rfl rfl (fun hc => ?_) (fun hc => ?_)
      · have h := h.1 hc
        refine x_iload_n dX12_shareOf_48 rfl 49 rfl ?_
        exact x_iret dX12_shareOf_49 ⟨rfl, h⟩
      · have h := h.2 hc
        refine x_iload dX12_shareOf_19 rfl 21 rfl ?_
        refine x_bipush dX12_shareOf_21 kb_10 23 rfl ?_
        refine x_imul dX12_shareOf_23 24 rfl ?_
        refine x_istore dX12_shareOf_24 (Nat.le_of_ble_eq_true rfl) [(2, .int l2), (3, .int l3), (4, .int (l4 * 10)), (5, .int l5)] rfl 26 rfl ?_
        refine x_bipush dX12_shareOf_26 kb_10 28 rfl ?_
        refine x_iload_n dX12_shareOf_28 rfl 29 rfl ?_
        refine x_imul dX12_shareOf_29 30 rfl ?_
        refine x_iload dX12_shareOf_30 rfl 32 rfl ?_
        refine x_iload_n dX12_shareOf_32 rfl 33 rfl ?_
        obtain ⟨hne, h⟩ := h
        refine x_idiv dX12_shareOf_33 hne 34 rfl ?_
        refine x_iadd dX12_shareOf_34 35 rfl ?_
        refine x_top (fun y1 hy1 => ?_)
        have h := h y1 hy1
        refine x_istore_n dX12_shareOf_35 (Nat.le_of_ble_eq_true rfl) [(2, .int l2), (3, .int y1), (4, .int (l4 * 10)), (5, .int l5)] rfl 36 rfl ?_
        refine x_iload dX12_shareOf_36 rfl 38 rfl ?_
        refine x_iload_n dX12_shareOf_38 rfl 39 rfl ?_
        obtain ⟨hne, h⟩ := h
        refine x_irem dX12_shareOf_39 hne 40 rfl ?_
        refine x_top (fun y2 hy2 => ?_)
        have h := h y2 hy2
        refine x_istore dX12_shareOf_40 (Nat.le_of_ble_eq_true rfl) [(2, .int l2), (3, .int y1), (4, .int y2), (5, .int l5)] rfl 42 rfl ?_
        refine x_iinc dX12_shareOf_42 rfl (congrArg (l5 + ·) kc_1) (Nat.le_of_ble_eq_true rfl) [(2, .int l2), (3, .int y1), (4, .int y2), (5, .int (l5 + 1))] rfl 45 rfl ?_
        refine x_goto dX12_shareOf_45 12 rfl ?_
        exact hB12 _ _ _ h
  exact hB12 n l3 l4 l5 h
def FX12_shareOf (Q : Int32 → Prop) (l0 : Nat) (l1 : Int32) (l2 : Int32) (M : Mem) : Prop :=
  (¬ (l2 : Int32) = 0) ∧ (¬ (l2 : Int32) = 0) ∧ NX12_shareOf_12 Q l2 (l1 / l2) (l1 - l1 / l2 * l2) 0 M
theorem eX12_shareOf {Q : Int32 → Prop} {l0 : Nat} {l1 : Int32} {l2 : Int32} {M : Mem} (hk_l0 : SHk l0 = 12) (h : FX12_shareOf Q l0 l1 l2 M) : xX RX12 cX12_shareOf 6 (some .int) 1 0 [(0, .ref l0), (1, .int l1), (2, .int l2)] [] M (xQi (xP M Q)) := by
  unfold FX12_shareOf at h
  refine x_iload_n dX12_shareOf_0 rfl 1 rfl ?_
  refine x_iload_n dX12_shareOf_1 rfl 2 rfl ?_
  obtain ⟨hne, h⟩ := h
  refine x_idiv dX12_shareOf_2 hne 3 rfl ?_
  refine x_istore_n dX12_shareOf_3 (Nat.le_of_ble_eq_true rfl) [(0, .ref l0), (1, .int l1), (2, .int l2), (3, .int (l1 / l2))] rfl 4 rfl ?_
  refine x_iload_n dX12_shareOf_4 rfl 5 rfl ?_
  refine x_iload_n dX12_shareOf_5 rfl 6 rfl ?_
  obtain ⟨hne, h⟩ := h
  refine x_irem dX12_shareOf_6 hne 7 rfl ?_
  refine x_istore dX12_shareOf_7 (Nat.le_of_ble_eq_true rfl) [(0, .ref l0), (1, .int l1), (2, .int l2), (3, .int (l1 / l2)), (4, .int (l1 - l1 / l2 * l2))] rfl 9 rfl ?_
  refine x_iconst dX12_shareOf_9 kc_0 10 rfl ?_
  refine x_istore dX12_shareOf_10 (Nat.le_of_ble_eq_true rfl) [(0, .ref l0), (1, .int l1), (2, .int l2), (3, .int (l1 / l2)), (4, .int (l1 - l1 / l2 * l2)), (5, .int 0)] rfl 12 rfl ?_
  refine x_weak [(2, .int l2), (3, .int (l1 / l2)), (4, .int (l1 - l1 / l2 * l2)), (5, .int 0)] [2, 3, 4, 5] rfl ?_
  exact nX12_shareOf_12 h
theorem cX12_shareOf_ {Q : Int32 → Prop} {l0 : Nat} {l1 : Int32} {l2 : Int32} {M : Mem} (hk_l0 : SHk l0 = 12) (h : FX12_shareOf Q l0 l1 l2 M) : xM yX12_shareOf cX12_shareOf 6 (some .int) 1 [.ref l0, .int l1, .int l2] M (xQi (xP M Q)) := xM_of (by decide +kernel) (Nat.le_of_ble_eq_true rfl) (eX12_shareOf hk_l0 h)
theorem kX12_shareOf {own : String} {cc : ByteArray} {nL : Nat} {rt : Option FieldType} {d pc ix : Nat} {L : List (Nat × Value)} {st : List Value} {M : Mem} {Rt : xGt → Array Value → State → Outcome → State → Prop} {Q : Int32 → Prop} {l0 : Nat} {l1 : Int32} {l2 : Int32} (hd : decode cc pc = .ok (.invokevirtual ix, 3)) (q : Nat) (hq : pc + 3 = q) (hk_l0 : SHk l0 = 12) (w1 : Cond.methodLink own ix yX12_shareOf ∈ xTs) (hr : 1 < d) (hst : (st.map fun v => v.category).sum ≤ 8) (h : FX12_shareOf Q l0 l1 l2 M) (k : ∀ (r : Int32), Q r → xX own cc nL rt d q L (.int r :: st) M Rt) : xX own cc nL rt d pc L (.int l2 :: .int l1 :: .ref l0 :: st) M Rt :=
  x_callV_i (n := 2) (As := [.int l1, .int l2]) hd q hq hk_l0 (by decide) rfl rfl w1 kw8_71 ks8_11 kw1_14 kw8_72 (by decide +kernel) rfl hr (by decide) hst _ rfl (cX12_shareOf_ hk_l0 h) (fun r N hN => by obtain ⟨rfl, hN⟩ := hN; exact k r hN)
def FX12_weighed (Q : Int32 → Prop) (l0 : Nat) (l1 : Int32) (l2 : Int32) (l3 : Int32) (M : Mem) : Prop :=
  FX12_shareOf (fun (r1 : Int32) => Q r1) l0 (l1 * l2) ((l1 * l2) + ((1000000 - l1) * l3)) M
theorem eX12_weighed {Q : Int32 → Prop} {l0 : Nat} {l1 : Int32} {l2 : Int32} {l3 : Int32} {M : Mem} (hk_l0 : SHk l0 = 12) (h : FX12_weighed Q l0 l1 l2 l3 M) : xX RX12 cX12_weighed 4 (some .int) 2 0 [(0, .ref l0), (1, .int l1), (2, .int l2), (3, .int l3)] [] M (xQi (xP M Q)) := by
  unfold FX12_weighed at h
  refine x_aload_n dX12_weighed_0 rfl 1 rfl ?_
  refine x_iload_n dX12_weighed_1 rfl 2 rfl ?_
  refine x_iload_n dX12_weighed_2 rfl 3 rfl ?_
  refine x_imul dX12_weighed_3 4 rfl ?_
  refine x_iload_n dX12_weighed_4 rfl 5 rfl ?_
  refine x_iload_n dX12_weighed_5 rfl 6 rfl ?_
  refine x_imul dX12_weighed_6 7 rfl ?_
  refine x_ldcw dX12_weighed_7 kw8_68 10 rfl ?_
  refine x_iload_n dX12_weighed_10 rfl 11 rfl ?_
  refine x_isub dX12_weighed_11 12 rfl ?_
  refine x_iload_n dX12_weighed_12 rfl 13 rfl ?_
  refine x_imul dX12_weighed_13 14 rfl ?_
  refine x_iadd dX12_weighed_14 15 rfl ?_
  refine kX12_shareOf dX12_weighed_15 18 rfl hk_l0 kw8_69 (Nat.le_of_ble_eq_true rfl) (Nat.le_of_ble_eq_true rfl) h (fun r1 h => ?_)
  exact x_iret dX12_weighed_18 ⟨rfl, h⟩
theorem cX12_weighed_ {Q : Int32 → Prop} {l0 : Nat} {l1 : Int32} {l2 : Int32} {l3 : Int32} {M : Mem} (hk_l0 : SHk l0 = 12) (h : FX12_weighed Q l0 l1 l2 l3 M) : xM yX12_weighed cX12_weighed 4 (some .int) 2 [.ref l0, .int l1, .int l2, .int l3] M (xQi (xP M Q)) := xM_of (by decide +kernel) (Nat.le_of_ble_eq_true rfl) (eX12_weighed hk_l0 h)
theorem kX12_weighed {own : String} {cc : ByteArray} {nL : Nat} {rt : Option FieldType} {d pc ix : Nat} {L : List (Nat × Value)} {st : List Value} {M : Mem} {Rt : xGt → Array Value → State → Outcome → State → Prop} {Q : Int32 → Prop} {l0 : Nat} {l1 : Int32} {l2 : Int32} {l3 : Int32} (hd : decode cc pc = .ok (.invokevirtual ix, 3)) (q : Nat) (hq : pc + 3 = q) (hk_l0 : SHk l0 = 12) (w1 : Cond.methodLink own ix yX12_weighed ∈ xTs) (hr : 2 < d) (hst : (st.map fun v => v.category).sum ≤ 8) (h : FX12_weighed Q l0 l1 l2 l3 M) (k : ∀ (r : Int32), Q r → xX own cc nL rt d q L (.int r :: st) M Rt) : xX own cc nL rt d pc L (.int l3 :: .int l2 :: .int l1 :: .ref l0 :: st) M Rt :=
  x_callV_i (n := 3) (As := [.int l1, .int l2, .int l3]) hd q hq hk_l0 (by decide) rfl rfl w1 kw8_66 ks8_10 kw1_14 kw8_67 (by decide +kernel) rfl hr (by decide) hst _ rfl (cX12_weighed_ hk_l0 h) (fun r N hN => by obtain ⟨rfl, hN⟩ := hN; exact k r hN)
def lbX12_gone_51 (Q : Int32 → Mem → Prop) (l0 : Nat) (l2 : Int32) (l3 : Int32) (M : Mem) (B51 : Int32 → Int32 → Prop) (l4 : Int32) (l5 : Int32) : Prop :=
  ((l3 ≤ l5 → Q l4 M) ∧ (¬ l3 ≤ l5 → ((l2 ≤ l5 → FX12_weighed (fun (r1 : Int32) => B51 r1 (l5 + 1)) l0 l4 1 4 M) ∧ (¬ l2 ≤ l5 → FX12_weighed (fun (r2 : Int32) => B51 r2 (l5 + 1)) l0 l4 4 1 M))))
def NX12_gone_51 (Q : Int32 → Mem → Prop) (l0 : Nat) (l2 : Int32) (l3 : Int32) (l4 : Int32) (l5 : Int32) (M : Mem) : Prop := xlp (fun (B : Int32 × Int32 → Prop) a => lbX12_gone_51 Q l0 l2 l3 M (fun l4 l5 => B (l4, l5)) a.1 a.2) (l4, l5)
theorem nX12_gone_51 {Q : Int32 → Mem → Prop} {l0 : Nat} {l2 : Int32} {l3 : Int32} {l4 : Int32} {l5 : Int32} {M : Mem} (hk_l0 : SHk l0 = 12) (h : NX12_gone_51 Q l0 l2 l3 l4 l5 M) : xX RX12 cX12_gone 6 (some .int) 3 51 [(0, .ref l0), (2, .int l2), (3, .int l3), (4, .int l4), (5, .int l5)] [] M (xQi Q) := by
  obtain ⟨n, h⟩ := h
  have hB51 : ∀ (n : Nat) (l4 : Int32) (l5 : Int32), xlpn (fun (B : Int32 × Int32 → Prop) a => lbX12_gone_51 Q l0 l2 l3 M (fun l4 l5 => B (l4, l5)) a.1 a.2) n (l4, l5) → xX RX12 cX12_gone 6 (some .int) 3 51 [(0, .ref l0), (2, .int l2), (3, .int l3), (4, .int l4), (5, .int l5)] [] M (xQi Q) := by
    intro n
    induction n with
    | zero => intro l4 l5 h; exact False.elim h
    | succ n ih =>
      intro l4 l5 h
      have hB51 := ih
      have h : lbX12_gone_51 Q l0 l2 l3 M (fun l4 l5 => xlpn (fun (B : Int32 × Int32 → Prop) a => lbX12_gone_51 Q l0 l2 l3 M (fun l4 l5 => B (l4, l5)) a.1 a.2) n (l4, l5)) l4 l5 := h
      unfold lbX12_gone_51 at h
      refine x_iload dX12_gone_51 rfl 53 rfl ?_
      refine x_iload_n dX12_gone_53 rfl 54 rfl ?_
      refine x_icmp_ge dX12_gone_54 90 57 rfl rfl (fun hc => ?_) (fun hc => ?_)
      · have h := h.1 hc
        refine x_iload dX12_gone_90 rfl 92 rfl ?_
        exact x_iret dX12_gone_92 h
      · have h := h.2 hc
        refine x_iload dX12_gone_57 rfl 59 rfl ?_
        refine x_iload_n dX12_gone_59 rfl 60 rfl ?_
        refine x_icmp_ge dX12_gone_60 74 63 rfl rfl (fun hc => ?_) (fun hc => ?_)
        · have h := h.1 hc
          refine x_aload_n dX12_gone_74 rfl 75 rfl ?_
          refine x_iload dX12_gone_75 rfl 77 rfl ?_
          refine x_iconst dX12_gone_77 kc_1 78 rfl ?_
          refine x_iconst dX12_gone_78 kc_4 79 rfl ?_
          refine kX12_weighed dX12_gone_79 82 rfl hk_l0 kw8_64 (Nat.le_of_ble_eq_true rfl) (Nat.le_of_ble_eq_true rfl) h (fun r1 h => ?_)
          refine x_istore dX12_gone_82 (Nat.le_of_ble_eq_true rfl) [(0, .ref l0), (2, .int l2), (3, .int l3), (4, .int r1), (5, .int l5)] rfl 84 rfl ?_
          refine x_iinc dX12_gone_84 rfl (congrArg (l5 + ·) kc_1) (Nat.le_of_ble_eq_true rfl) [(0, .ref l0), (2, .int l2), (3, .int l3), (4, .int r1), (5, .int (l5 + 1))] rfl 87 rfl ?_
          refine x_goto dX12_gone_87 51 rfl ?_
          exact hB51 _ _ h
        · have h := h.2 hc
          refine x_aload_n dX12_gone_63 rfl 64 rfl ?_
          refine x_iload dX12_gone_64 rfl 66 rfl ?_
          refine x_iconst dX12_gone_66 kc_4 67 rfl ?_
          refine x_iconst dX12_gone_67 kc_1 68 rfl ?_
          refine kX12_weighed dX12_gone_68 71 rfl hk_l0 kw8_64 (Nat.le_of_ble_eq_true rfl) (Nat.le_of_ble_eq_true rfl) h (fun r2 h => ?_)
          refine x_goto dX12_gone_71 82 rfl ?_
          refine x_istore dX12_gone_82 (Nat.le_of_ble_eq_true rfl) [(0, .ref l0), (2, .int l2), (3, .int l3), (4, .int r2), (5, .int l5)] rfl 84 rfl ?_
          refine x_iinc dX12_gone_84 rfl (congrArg (l5 + ·) kc_1) (Nat.le_of_ble_eq_true rfl) [(0, .ref l0), (2, .int l2), (3, .int l3), (4, .int r2), (5, .int (l5 + 1))] rfl 87 rfl ?_
          refine x_goto dX12_gone_87 51 rfl ?_
          exact hB51 _ _ h
  exact hB51 n l4 l5 h
def FX12_gone (Q : Int32 → Mem → Prop) (l0 : Nat) (l1 : Int32) (l2 : Int32) (l3 : Int32) (M : Mem) : Prop :=
  ∀ M3 : Mem, M3 = xu M l0 0 0 → FX12_isIn (fun (r4 : Bool) => ((r4 = false → Q (-1) M3) ∧ (r4 = true → FX12_isIn (fun (r5 : Bool) => ((r5 = false → Q (-1) M3) ∧ (r5 = true → FX12_isIn (fun (r6 : Bool) => ((r6 = true → NX12_gone_51 Q l0 l2 l3 (1000 * l1) 0 M3) ∧ (r6 = false → Q (-1) M3))) l0 l3 l2 40 M3))) l0 l2 0 20 M3))) l0 l1 0 1000 M3
theorem eX12_gone {Q : Int32 → Mem → Prop} {l0 : Nat} {l1 : Int32} {l2 : Int32} {l3 : Int32} {M : Mem} (hk_l0 : SHk l0 = 12) (h : FX12_gone Q l0 l1 l2 l3 M) : xX RX12 cX12_gone 6 (some .int) 3 0 [(0, .ref l0), (1, .int l1), (2, .int l2), (3, .int l3)] [] M (xQi Q) := by
  unfold FX12_gone at h
  refine x_aload_n dX12_gone_0 rfl 1 rfl ?_
  refine x_iconst dX12_gone_1 kc_0 2 rfl ?_
  refine pf12_0 dX12_gone_2 5 rfl hk_l0 kw5_159 (x_mem (fun M3 hM3 => ?_))
  have h := h M3 hM3
  refine x_aload_n dX12_gone_5 rfl 6 rfl ?_
  refine x_iload_n dX12_gone_6 rfl 7 rfl ?_
  refine x_iconst dX12_gone_7 kc_0 8 rfl ?_
  refine x_sipush dX12_gone_8 kh_1000 11 rfl ?_
  refine kX12_isIn dX12_gone_11 14 rfl hk_l0 kw6_82 (Nat.le_of_ble_eq_true rfl) (Nat.le_of_ble_eq_true rfl) h (fun r4 h => ?_)
  refine x_if_eq_b dX12_gone_14 39 17 rfl rfl (fun hc => ?_) (fun hc => ?_)
  · have h := h.1 hc
    refine x_iconst dX12_gone_39 kc_m1 40 rfl ?_
    exact x_iret dX12_gone_40 h
  · have h := h.2 hc
    refine x_aload_n dX12_gone_17 rfl 18 rfl ?_
    refine x_iload_n dX12_gone_18 rfl 19 rfl ?_
    refine x_iconst dX12_gone_19 kc_0 20 rfl ?_
    refine x_bipush dX12_gone_20 kb_20 22 rfl ?_
    refine kX12_isIn dX12_gone_22 25 rfl hk_l0 kw6_82 (Nat.le_of_ble_eq_true rfl) (Nat.le_of_ble_eq_true rfl) h (fun r5 h => ?_)
    refine x_if_eq_b dX12_gone_25 39 28 rfl rfl (fun hc => ?_) (fun hc => ?_)
    · have h := h.1 hc
      refine x_iconst dX12_gone_39 kc_m1 40 rfl ?_
      exact x_iret dX12_gone_40 h
    · have h := h.2 hc
      refine x_aload_n dX12_gone_28 rfl 29 rfl ?_
      refine x_iload_n dX12_gone_29 rfl 30 rfl ?_
      refine x_iload_n dX12_gone_30 rfl 31 rfl ?_
      refine x_bipush dX12_gone_31 kb_40 33 rfl ?_
      refine kX12_isIn dX12_gone_33 36 rfl hk_l0 kw6_82 (Nat.le_of_ble_eq_true rfl) (Nat.le_of_ble_eq_true rfl) h (fun r6 h => ?_)
      refine x_if_ne_b dX12_gone_36 41 39 rfl rfl (fun hc => ?_) (fun hc => ?_)
      · have h := h.1 hc
        refine x_sipush dX12_gone_41 kh_1000 44 rfl ?_
        refine x_iload_n dX12_gone_44 rfl 45 rfl ?_
        refine x_imul dX12_gone_45 46 rfl ?_
        refine x_istore dX12_gone_46 (Nat.le_of_ble_eq_true rfl) [(0, .ref l0), (1, .int l1), (2, .int l2), (3, .int l3), (4, .int (1000 * l1))] rfl 48 rfl ?_
        refine x_iconst dX12_gone_48 kc_0 49 rfl ?_
        refine x_istore dX12_gone_49 (Nat.le_of_ble_eq_true rfl) [(0, .ref l0), (1, .int l1), (2, .int l2), (3, .int l3), (4, .int (1000 * l1)), (5, .int 0)] rfl 51 rfl ?_
        refine x_weak [(0, .ref l0), (2, .int l2), (3, .int l3), (4, .int (1000 * l1)), (5, .int 0)] [0, 2, 3, 4, 5] rfl ?_
        exact nX12_gone_51 hk_l0 h
      · have h := h.2 hc
        refine x_iconst dX12_gone_39 kc_m1 40 rfl ?_
        exact x_iret dX12_gone_40 h
theorem cX12_gone_ {Q : Int32 → Mem → Prop} {l0 : Nat} {l1 : Int32} {l2 : Int32} {l3 : Int32} {M : Mem} (hk_l0 : SHk l0 = 12) (h : FX12_gone Q l0 l1 l2 l3 M) : xM yX12_gone cX12_gone 6 (some .int) 3 [.ref l0, .int l1, .int l2, .int l3] M (xQi Q) := xM_of (by decide +kernel) (Nat.le_of_ble_eq_true rfl) (eX12_gone hk_l0 h)
theorem kX12_gone {own : String} {cc : ByteArray} {nL : Nat} {rt : Option FieldType} {d pc ix : Nat} {L : List (Nat × Value)} {st : List Value} {M : Mem} {Rt : xGt → Array Value → State → Outcome → State → Prop} {Q : Int32 → Mem → Prop} {l0 : Nat} {l1 : Int32} {l2 : Int32} {l3 : Int32} (hd : decode cc pc = .ok (.invokevirtual ix, 3)) (q : Nat) (hq : pc + 3 = q) (hk_l0 : SHk l0 = 12) (w1 : Cond.methodLink own ix yX12_gone ∈ xTs) (hr : 3 < d) (hst : (st.map fun v => v.category).sum ≤ 8) (h : FX12_gone Q l0 l1 l2 l3 M) (k : ∀ (r : Int32) (N : Mem), Q r N → xX own cc nL rt d q L (.int r :: st) N Rt) : xX own cc nL rt d pc L (.int l3 :: .int l2 :: .int l1 :: .ref l0 :: st) M Rt :=
  x_callV_i (n := 3) (As := [.int l1, .int l2, .int l3]) hd q hq hk_l0 (by decide) rfl rfl w1 kw8_61 kw8_62 kw1_14 kw8_63 (by decide +kernel) rfl hr (by decide) hst _ rfl (cX12_gone_ hk_l0 h) k
def FX12_added (Q : Int32 → Prop) (l0 : Nat) (l1 : Int32) (l2 : Int32) (M : Mem) : Prop :=
  ((l1 < (1000000007 - l2) → Q (l1 + l2)) ∧ (¬ l1 < (1000000007 - l2) → Q (l1 - (1000000007 - l2))))
theorem eX12_added {Q : Int32 → Prop} {l0 : Nat} {l1 : Int32} {l2 : Int32} {M : Mem} (hk_l0 : SHk l0 = 12) (h : FX12_added Q l0 l1 l2 M) : xX RX12 cX12_added 3 (some .int) 1 0 [(0, .ref l0), (1, .int l1), (2, .int l2)] [] M (xQi (xP M Q)) := by
  unfold FX12_added at h
  refine x_iload_n dX12_added_0 rfl 1 rfl ?_
  refine x_ldcw dX12_added_1 kw8_85 4 rfl ?_
  refine x_iload_n dX12_added_4 rfl 5 rfl ?_
  refine x_isub dX12_added_5 6 rfl ?_
  refine x_icmp_lt dX12_added_6 19 9 rfl rfl (fun hc => ?_) (fun hc => ?_)
  · have h := h.1 hc
    refine x_iload_n dX12_added_19 rfl 20 rfl ?_
    refine x_iload_n dX12_added_20 rfl 21 rfl ?_
    refine x_iadd dX12_added_21 22 rfl ?_
    exact x_iret dX12_added_22 ⟨rfl, h⟩
  · have h := h.2 hc
    refine x_iload_n dX12_added_9 rfl 10 rfl ?_
    refine x_ldcw dX12_added_10 kw8_85 13 rfl ?_
    refine x_iload_n dX12_added_13 rfl 14 rfl ?_
    refine x_isub dX12_added_14 15 rfl ?_
    refine x_isub dX12_added_15 16 rfl ?_
    refine x_goto dX12_added_16 22 rfl ?_
    exact x_iret dX12_added_22 ⟨rfl, h⟩
theorem cX12_added_ {Q : Int32 → Prop} {l0 : Nat} {l1 : Int32} {l2 : Int32} {M : Mem} (hk_l0 : SHk l0 = 12) (h : FX12_added Q l0 l1 l2 M) : xM yX12_added cX12_added 3 (some .int) 1 [.ref l0, .int l1, .int l2] M (xQi (xP M Q)) := xM_of (by decide +kernel) (Nat.le_of_ble_eq_true rfl) (eX12_added hk_l0 h)
theorem kX12_added {own : String} {cc : ByteArray} {nL : Nat} {rt : Option FieldType} {d pc ix : Nat} {L : List (Nat × Value)} {st : List Value} {M : Mem} {Rt : xGt → Array Value → State → Outcome → State → Prop} {Q : Int32 → Prop} {l0 : Nat} {l1 : Int32} {l2 : Int32} (hd : decode cc pc = .ok (.invokevirtual ix, 3)) (q : Nat) (hq : pc + 3 = q) (hk_l0 : SHk l0 = 12) (w1 : Cond.methodLink own ix yX12_added ∈ xTs) (hr : 1 < d) (hst : (st.map fun v => v.category).sum ≤ 8) (h : FX12_added Q l0 l1 l2 M) (k : ∀ (r : Int32), Q r → xX own cc nL rt d q L (.int r :: st) M Rt) : xX own cc nL rt d pc L (.int l2 :: .int l1 :: .ref l0 :: st) M Rt :=
  x_callV_i (n := 2) (As := [.int l1, .int l2]) hd q hq hk_l0 (by decide) rfl rfl w1 kw8_83 ks8_13 kw1_14 kw8_84 (by decide +kernel) rfl hr (by decide) hst _ rfl (cX12_added_ hk_l0 h) (fun r N hN => by obtain ⟨rfl, hN⟩ := hN; exact k r hN)
def FX12_canStep (Q : Bool → Prop) (l0 : Nat) (l1 : Int32) (l2 : Int32) (l3 : Int32) (M : Mem) : Prop :=
  ((l1 = l2 → Q false) ∧ (¬ l1 = l2 → FX12_far (fun (r1 : Int32) => ((2 < r1 → Q false) ∧ (¬ 2 < r1 → vp_in (63 + l1) 107 ∧ vp_in (63 + l2) 107 ∧ FX12_far (fun (r2 : Int32) => ((l3 < r2 → Q false) ∧ (¬ l3 < r2 → Q true))) l0 (M (l0 + 1) (ix (63 + l1))) (M (l0 + 1) (ix (63 + l2))) M))) l0 l1 l2 M))
theorem eX12_canStep {Q : Bool → Prop} {l0 : Nat} {l1 : Int32} {l2 : Int32} {l3 : Int32} {M : Mem} (hk_l0 : SHk l0 = 12) (h : FX12_canStep Q l0 l1 l2 l3 M) : xX RX12 cX12_canStep 4 (some .boolean) 2 0 [(0, .ref l0), (1, .int l1), (2, .int l2), (3, .int l3)] [] M (xQb (xP M Q)) := by
  unfold FX12_canStep at h
  refine x_iload_n dX12_canStep_0 rfl 1 rfl ?_
  refine x_iload_n dX12_canStep_1 rfl 2 rfl ?_
  refine x_icmp_eq dX12_canStep_2 45 5 rfl rfl (fun hc => ?_) (fun hc => ?_)
  · have h := h.1 hc
    refine x_iconst dX12_canStep_45 kc_0 46 rfl ?_
    exact x_zret (z := false) dX12_canStep_46 ⟨rfl, h⟩
  · have h := h.2 hc
    refine x_aload_n dX12_canStep_5 rfl 6 rfl ?_
    refine x_iload_n dX12_canStep_6 rfl 7 rfl ?_
    refine x_iload_n dX12_canStep_7 rfl 8 rfl ?_
    refine kX12_far dX12_canStep_8 11 rfl hk_l0 kw8_2 (Nat.le_of_ble_eq_true rfl) (Nat.le_of_ble_eq_true rfl) h (fun r1 h => ?_)
    refine x_iconst dX12_canStep_11 kc_2 12 rfl ?_
    refine x_icmp_gt dX12_canStep_12 45 15 rfl rfl (fun hc => ?_) (fun hc => ?_)
    · have h := h.1 hc
      refine x_iconst dX12_canStep_45 kc_0 46 rfl ?_
      exact x_zret (z := false) dX12_canStep_46 ⟨rfl, h⟩
    · have h := h.2 hc
      refine x_aload_n dX12_canStep_15 rfl 16 rfl ?_
      refine x_aload_n dX12_canStep_16 rfl 17 rfl ?_
      refine gf12_1 dX12_canStep_17 20 rfl hk_l0 kw5_160 ?_
      refine x_bipush dX12_canStep_20 kb_63 22 rfl ?_
      refine x_iload_n dX12_canStep_22 rfl 23 rfl ?_
      refine x_iadd dX12_canStep_23 24 rfl ?_
      obtain ⟨hin, h⟩ := h
      refine x_iaload dX12_canStep_24 (ly12_1 hk_l0) hin 25 rfl ?_
      refine x_aload_n dX12_canStep_25 rfl 26 rfl ?_
      refine gf12_1 dX12_canStep_26 29 rfl hk_l0 kw5_160 ?_
      refine x_bipush dX12_canStep_29 kb_63 31 rfl ?_
      refine x_iload_n dX12_canStep_31 rfl 32 rfl ?_
      refine x_iadd dX12_canStep_32 33 rfl ?_
      obtain ⟨hin, h⟩ := h
      refine x_iaload dX12_canStep_33 (ly12_1 hk_l0) hin 34 rfl ?_
      refine kX12_far dX12_canStep_34 37 rfl hk_l0 kw8_2 (Nat.le_of_ble_eq_true rfl) (Nat.le_of_ble_eq_true rfl) h (fun r2 h => ?_)
      refine x_iload_n dX12_canStep_37 rfl 38 rfl ?_
      refine x_icmp_gt dX12_canStep_38 45 41 rfl rfl (fun hc => ?_) (fun hc => ?_)
      · have h := h.1 hc
        refine x_iconst dX12_canStep_45 kc_0 46 rfl ?_
        exact x_zret (z := false) dX12_canStep_46 ⟨rfl, h⟩
      · have h := h.2 hc
        refine x_iconst dX12_canStep_41 kc_1 42 rfl ?_
        refine x_goto dX12_canStep_42 46 rfl ?_
        exact x_zret (z := true) dX12_canStep_46 ⟨rfl, h⟩
theorem cX12_canStep_ {Q : Bool → Prop} {l0 : Nat} {l1 : Int32} {l2 : Int32} {l3 : Int32} {M : Mem} (hk_l0 : SHk l0 = 12) (h : FX12_canStep Q l0 l1 l2 l3 M) : xM yX12_canStep cX12_canStep 4 (some .boolean) 2 [.ref l0, .int l1, .int l2, .int l3] M (xQb (xP M Q)) := xM_of (by decide +kernel) (Nat.le_of_ble_eq_true rfl) (eX12_canStep hk_l0 h)
theorem kX12_canStep {own : String} {cc : ByteArray} {nL : Nat} {rt : Option FieldType} {d pc ix : Nat} {L : List (Nat × Value)} {st : List Value} {M : Mem} {Rt : xGt → Array Value → State → Outcome → State → Prop} {Q : Bool → Prop} {l0 : Nat} {l1 : Int32} {l2 : Int32} {l3 : Int32} (hd : decode cc pc = .ok (.invokevirtual ix, 3)) (q : Nat) (hq : pc + 3 = q) (hk_l0 : SHk l0 = 12) (w1 : Cond.methodLink own ix yX12_canStep ∈ xTs) (hr : 2 < d) (hst : (st.map fun v => v.category).sum ≤ 8) (h : FX12_canStep Q l0 l1 l2 l3 M) (k : ∀ (r : Bool), Q r → xX own cc nL rt d q L (.int (bI r) :: st) M Rt) : xX own cc nL rt d pc L (.int l3 :: .int l2 :: .int l1 :: .ref l0 :: st) M Rt :=
  x_callV_b (n := 3) (As := [.int l1, .int l2, .int l3]) hd q hq hk_l0 (by decide) rfl rfl w1 kw8_79 ks8_12 kw1_14 kw8_80 (by decide +kernel) rfl hr (by decide) hst _ rfl (cX12_canStep_ hk_l0 h) (fun r N hN => by obtain ⟨rfl, hN⟩ := hN; exact k r hN)
def NX12_lap_72 (Q : Int32 → Mem → Prop) (B48 : Int32 → Mem → Prop) (l0 : Nat) (l1 : Int32) (l2 : Int32) (l3 : Int32) (l4 : Int32) (l5 : Int32) (s0 : Nat) (s1 : Int32) (s2 : Int32) (M : Mem) : Prop :=
  vp_in s1 (SHn s0) ∧ ∀ M1 : Mem, M1 = xu M s0 (ix s1) s2 → B48 (l5 + 1) M1
theorem nX12_lap_72 {Q : Int32 → Mem → Prop} {B48 : Int32 → Mem → Prop} {l0 : Nat} {l1 : Int32} {l2 : Int32} {l3 : Int32} {l4 : Int32} {l5 : Int32} {s0 : Nat} {s1 : Int32} {s2 : Int32} {M : Mem} (hB48 : ∀ (l5 : Int32) (M : Mem), B48 l5 M → xX RX12 cX12_lap 9 (some .int) 3 48 [(0, .ref l0), (1, .int l1), (2, .int l2), (3, .int l3), (4, .int l4), (5, .int l5)] [] M (xQi Q)) (hk_l0 : SHk l0 = 12) (hk_s0 : SHk s0 = 13) (h : NX12_lap_72 Q B48 l0 l1 l2 l3 l4 l5 s0 s1 s2 M) : xX RX12 cX12_lap 9 (some .int) 3 72 [(0, .ref l0), (1, .int l1), (2, .int l2), (3, .int l3), (4, .int l4), (5, .int l5)] [.int s2, .int s1, .ref s0] M (xQi Q) := by
  unfold NX12_lap_72 at h
  obtain ⟨hin, h⟩ := h
  refine x_iastore dX12_lap_72 ⟨hk_s0, rfl⟩ hin 73 rfl (x_mem (fun M1 hM1 => ?_))
  have h := h M1 hM1
  refine x_iinc dX12_lap_73 rfl (congrArg (l5 + ·) kc_1) (Nat.le_of_ble_eq_true rfl) [(0, .ref l0), (1, .int l1), (2, .int l2), (3, .int l3), (4, .int l4), (5, .int (l5 + 1))] rfl 76 rfl ?_
  refine x_goto dX12_lap_76 48 rfl ?_
  exact hB48 _ _ h
def lbX12_lap_133 (Q : Int32 → Mem → Prop) (B82 : Int32 → Mem → Prop) (B118 : Int32 → Mem → Prop) (l0 : Nat) (l2 : Int32) (l3 : Int32) (l4 : Int32) (l5 : Int32) (l6 : Int32) (M : Mem) (B133 : Int32 → Int32 → Prop) (l7 : Int32) (l8 : Int32) : Prop :=
  (((M l0 6) ≤ l8 → vp_in l6 10 ∧ ∀ M2 : Mem, M2 = xu M (l0 + 24) (ix l6) l7 → B118 (l6 + 1) M2) ∧ (¬ (M l0 6) ≤ l8 → FX12_canStep (fun (r3 : Bool) => ((r3 = false → B133 l7 (l8 + 1)) ∧ (r3 = true → vp_in l8 10 ∧ FX12_added (fun (r4 : Int32) => B133 r4 (l8 + 1)) l0 l7 (M (l0 + 23) (ix l8)) M))) l0 l8 l6 l3 M))
def NX12_lap_133 (Q : Int32 → Mem → Prop) (B82 : Int32 → Mem → Prop) (B118 : Int32 → Mem → Prop) (l0 : Nat) (l2 : Int32) (l3 : Int32) (l4 : Int32) (l5 : Int32) (l6 : Int32) (l7 : Int32) (l8 : Int32) (M : Mem) : Prop := xlp (fun (B : Int32 × Int32 → Prop) a => lbX12_lap_133 Q B82 B118 l0 l2 l3 l4 l5 l6 M (fun l7 l8 => B (l7, l8)) a.1 a.2) (l7, l8)
theorem nX12_lap_133 {Q : Int32 → Mem → Prop} {B82 : Int32 → Mem → Prop} {B118 : Int32 → Mem → Prop} {l0 : Nat} {l2 : Int32} {l3 : Int32} {l4 : Int32} {l5 : Int32} {l6 : Int32} {l7 : Int32} {l8 : Int32} {M : Mem} (hB82 : ∀ (l5 : Int32) (M : Mem), B82 l5 M → xX RX12 cX12_lap 9 (some .int) 3 82 [(0, .ref l0), (2, .int l2), (3, .int l3), (4, .int l4), (5, .int l5)] [] M (xQi Q)) (hB118 : ∀ (l6 : Int32) (M : Mem), B118 l6 M → xX RX12 cX12_lap 9 (some .int) 3 118 [(0, .ref l0), (2, .int l2), (3, .int l3), (4, .int l4), (5, .int l5), (6, .int l6)] [] M (xQi Q)) (hk_l0 : SHk l0 = 12) (h : NX12_lap_133 Q B82 B118 l0 l2 l3 l4 l5 l6 l7 l8 M) : xX RX12 cX12_lap 9 (some .int) 3 133 [(0, .ref l0), (2, .int l2), (3, .int l3), (4, .int l4), (5, .int l5), (6, .int l6), (7, .int l7), (8, .int l8)] [] M (xQi Q) := by
  obtain ⟨n, h⟩ := h
  have hB133 : ∀ (n : Nat) (l7 : Int32) (l8 : Int32), xlpn (fun (B : Int32 × Int32 → Prop) a => lbX12_lap_133 Q B82 B118 l0 l2 l3 l4 l5 l6 M (fun l7 l8 => B (l7, l8)) a.1 a.2) n (l7, l8) → xX RX12 cX12_lap 9 (some .int) 3 133 [(0, .ref l0), (2, .int l2), (3, .int l3), (4, .int l4), (5, .int l5), (6, .int l6), (7, .int l7), (8, .int l8)] [] M (xQi Q) := by
    intro n
    induction n with
    | zero => intro l7 l8 h; exact False.elim h
    | succ n ih =>
      intro l7 l8 h
      have hB133 := ih
      have h : lbX12_lap_133 Q B82 B118 l0 l2 l3 l4 l5 l6 M (fun l7 l8 => xlpn (fun (B : Int32 × Int32 → Prop) a => lbX12_lap_133 Q B82 B118 l0 l2 l3 l4 l5 l6 M (fun l7 l8 => B (l7, l8)) a.1 a.2) n (l7, l8)) l7 l8 := h
      unfold lbX12_lap_133 at h
      refine x_iload dX12_lap_133 rfl 135 rfl ?_
      refine x_aload_n dX12_lap_135 rfl 136 rfl ?_
      refine gf12_6 dX12_lap_136 139 rfl hk_l0 kw5_165 ?_
      refine x_icmp_ge dX12_lap_139 175 142 rfl rfl (fun hc => ?_) (fun hc => ?_)
      · have h := h.1 hc
        refine x_aload_n dX12_lap_175 rfl 176 rfl ?_
        refine gf12_45 dX12_lap_176 179 rfl hk_l0 kw5_204 ?_
        refine x_iload dX12_lap_179 rfl 181 rfl ?_
        refine x_iload dX12_lap_181 rfl 183 rfl ?_
        obtain ⟨hin, h⟩ := h
        refine x_iastore dX12_lap_183 (ly12_45 hk_l0) hin 184 rfl (x_mem (fun M2 hM2 => ?_))
        have h := h M2 hM2
        refine x_iinc dX12_lap_184 rfl (congrArg (l6 + ·) kc_1) (Nat.le_of_ble_eq_true rfl) [(0, .ref l0), (2, .int l2), (3, .int l3), (4, .int l4), (5, .int l5), (6, .int (l6 + 1)), (7, .int l7), (8, .int l8)] rfl 187 rfl ?_
        refine x_goto dX12_lap_187 118 rfl ?_
        refine x_weak [(0, .ref l0), (2, .int l2), (3, .int l3), (4, .int l4), (5, .int l5), (6, .int (l6 + 1))] [0, 1, 2, 3, 4, 5] rfl ?_
        exact hB118 _ _ h
      · have h := h.2 hc
        refine x_aload_n dX12_lap_142 rfl 143 rfl ?_
        refine x_iload dX12_lap_143 rfl 145 rfl ?_
        refine x_iload dX12_lap_145 rfl 147 rfl ?_
        refine x_iload_n dX12_lap_147 rfl 148 rfl ?_
        refine kX12_canStep dX12_lap_148 151 rfl hk_l0 kw8_77 (Nat.le_of_ble_eq_true rfl) (Nat.le_of_ble_eq_true rfl) h (fun r3 h => ?_)
        refine x_if_eq_b dX12_lap_151 169 154 rfl rfl (fun hc => ?_) (fun hc => ?_)
        · have h := h.1 hc
          refine x_iinc dX12_lap_169 rfl (congrArg (l8 + ·) kc_1) (Nat.le_of_ble_eq_true rfl) [(0, .ref l0), (2, .int l2), (3, .int l3), (4, .int l4), (5, .int l5), (6, .int l6), (7, .int l7), (8, .int (l8 + 1))] rfl 172 rfl ?_
          refine x_goto dX12_lap_172 133 rfl ?_
          exact hB133 _ _ h
        · have h := h.2 hc
          refine x_aload_n dX12_lap_154 rfl 155 rfl ?_
          refine x_iload dX12_lap_155 rfl 157 rfl ?_
          refine x_aload_n dX12_lap_157 rfl 158 rfl ?_
          refine gf12_44 dX12_lap_158 161 rfl hk_l0 kw5_203 ?_
          refine x_iload dX12_lap_161 rfl 163 rfl ?_
          obtain ⟨hin, h⟩ := h
          refine x_iaload dX12_lap_163 (ly12_44 hk_l0) hin 164 rfl ?_
          refine kX12_added dX12_lap_164 167 rfl hk_l0 kw8_81 (Nat.le_of_ble_eq_true rfl) (Nat.le_of_ble_eq_true rfl) h (fun r4 h => ?_)
          refine x_istore dX12_lap_167 (Nat.le_of_ble_eq_true rfl) [(0, .ref l0), (2, .int l2), (3, .int l3), (4, .int l4), (5, .int l5), (6, .int l6), (7, .int r4), (8, .int l8)] rfl 169 rfl ?_
          refine x_iinc dX12_lap_169 rfl (congrArg (l8 + ·) kc_1) (Nat.le_of_ble_eq_true rfl) [(0, .ref l0), (2, .int l2), (3, .int l3), (4, .int l4), (5, .int l5), (6, .int l6), (7, .int r4), (8, .int (l8 + 1))] rfl 172 rfl ?_
          refine x_goto dX12_lap_172 133 rfl ?_
          exact hB133 _ _ h
  exact hB133 n l7 l8 h
def lbX12_lap_193 (Q : Int32 → Mem → Prop) (B82 : Int32 → Mem → Prop) (l0 : Nat) (l2 : Int32) (l3 : Int32) (l4 : Int32) (l5 : Int32) (B193 : Int32 → Mem → Prop) (l6 : Int32) (M : Mem) : Prop :=
  (((M l0 6) ≤ l6 → B82 (l5 + 1) M) ∧ (¬ (M l0 6) ≤ l6 → vp_in l6 10 ∧ vp_in l6 10 ∧ ∀ M5 : Mem, M5 = xu M (l0 + 23) (ix l6) (M (l0 + 24) (ix l6)) → B193 (l6 + 1) M5))
def NX12_lap_193 (Q : Int32 → Mem → Prop) (B82 : Int32 → Mem → Prop) (l0 : Nat) (l2 : Int32) (l3 : Int32) (l4 : Int32) (l5 : Int32) (l6 : Int32) (M : Mem) : Prop := xlp (fun (B : Int32 × Mem → Prop) a => lbX12_lap_193 Q B82 l0 l2 l3 l4 l5 (fun l6 M => B (l6, M)) a.1 a.2) (l6, M)
theorem nX12_lap_193 {Q : Int32 → Mem → Prop} {B82 : Int32 → Mem → Prop} {l0 : Nat} {l2 : Int32} {l3 : Int32} {l4 : Int32} {l5 : Int32} {l6 : Int32} {M : Mem} (hB82 : ∀ (l5 : Int32) (M : Mem), B82 l5 M → xX RX12 cX12_lap 9 (some .int) 3 82 [(0, .ref l0), (2, .int l2), (3, .int l3), (4, .int l4), (5, .int l5)] [] M (xQi Q)) (hk_l0 : SHk l0 = 12) (h : NX12_lap_193 Q B82 l0 l2 l3 l4 l5 l6 M) : xX RX12 cX12_lap 9 (some .int) 3 193 [(0, .ref l0), (2, .int l2), (3, .int l3), (4, .int l4), (5, .int l5), (6, .int l6)] [] M (xQi Q) := by
  obtain ⟨n, h⟩ := h
  have hB193 : ∀ (n : Nat) (l6 : Int32) (M : Mem), xlpn (fun (B : Int32 × Mem → Prop) a => lbX12_lap_193 Q B82 l0 l2 l3 l4 l5 (fun l6 M => B (l6, M)) a.1 a.2) n (l6, M) → xX RX12 cX12_lap 9 (some .int) 3 193 [(0, .ref l0), (2, .int l2), (3, .int l3), (4, .int l4), (5, .int l5), (6, .int l6)] [] M (xQi Q) := by
    intro n
    induction n with
    | zero => intro l6 M h; exact False.elim h
    | succ n ih =>
      intro l6 M h
      have hB193 := ih
      have h : lbX12_lap_193 Q B82 l0 l2 l3 l4 l5 (fun l6 M => xlpn (fun (B : Int32 × Mem → Prop) a => lbX12_lap_193 Q B82 l0 l2 l3 l4 l5 (fun l6 M => B (l6, M)) a.1 a.2) n (l6, M)) l6 M := h
      unfold lbX12_lap_193 at h
      refine x_iload dX12_lap_193 rfl 195 rfl ?_
      refine x_aload_n dX12_lap_195 rfl 196 rfl ?_
      refine gf12_6 dX12_lap_196 199 rfl hk_l0 kw5_165 ?_
      refine x_icmp_ge dX12_lap_199 222 202 rfl rfl (fun hc => ?_) (fun hc => ?_)
      · have h := h.1 hc
        refine x_iinc dX12_lap_222 rfl (congrArg (l5 + ·) kc_1) (Nat.le_of_ble_eq_true rfl) [(0, .ref l0), (2, .int l2), (3, .int l3), (4, .int l4), (5, .int (l5 + 1)), (6, .int l6)] rfl 225 rfl ?_
        refine x_goto dX12_lap_225 82 rfl ?_
        refine x_weak [(0, .ref l0), (2, .int l2), (3, .int l3), (4, .int l4), (5, .int (l5 + 1))] [0, 1, 2, 3, 4] rfl ?_
        exact hB82 _ _ h
      · have h := h.2 hc
        refine x_aload_n dX12_lap_202 rfl 203 rfl ?_
        refine gf12_44 dX12_lap_203 206 rfl hk_l0 kw5_203 ?_
        refine x_iload dX12_lap_206 rfl 208 rfl ?_
        refine x_aload_n dX12_lap_208 rfl 209 rfl ?_
        refine gf12_45 dX12_lap_209 212 rfl hk_l0 kw5_204 ?_
        refine x_iload dX12_lap_212 rfl 214 rfl ?_
        obtain ⟨hin, h⟩ := h
        refine x_iaload dX12_lap_214 (ly12_45 hk_l0) hin 215 rfl ?_
        obtain ⟨hin, h⟩ := h
        refine x_iastore dX12_lap_215 (ly12_44 hk_l0) hin 216 rfl (x_mem (fun M5 hM5 => ?_))
        have h := h M5 hM5
        refine x_iinc dX12_lap_216 rfl (congrArg (l6 + ·) kc_1) (Nat.le_of_ble_eq_true rfl) [(0, .ref l0), (2, .int l2), (3, .int l3), (4, .int l4), (5, .int l5), (6, .int (l6 + 1))] rfl 219 rfl ?_
        refine x_goto dX12_lap_219 193 rfl ?_
        exact hB193 _ _ h
  exact hB193 n l6 M h
def lbX12_lap_118 (Q : Int32 → Mem → Prop) (B82 : Int32 → Mem → Prop) (l0 : Nat) (l2 : Int32) (l3 : Int32) (l4 : Int32) (l5 : Int32) (B118 : Int32 → Mem → Prop) (l6 : Int32) (M : Mem) : Prop :=
  (((M l0 6) ≤ l6 → NX12_lap_193 Q B82 l0 l2 l3 l4 l5 0 M) ∧ (¬ (M l0 6) ≤ l6 → NX12_lap_133 Q B82 B118 l0 l2 l3 l4 l5 l6 0 0 M))
def NX12_lap_118 (Q : Int32 → Mem → Prop) (B82 : Int32 → Mem → Prop) (l0 : Nat) (l2 : Int32) (l3 : Int32) (l4 : Int32) (l5 : Int32) (l6 : Int32) (M : Mem) : Prop := xlp (fun (B : Int32 × Mem → Prop) a => lbX12_lap_118 Q B82 l0 l2 l3 l4 l5 (fun l6 M => B (l6, M)) a.1 a.2) (l6, M)
theorem nX12_lap_118 {Q : Int32 → Mem → Prop} {B82 : Int32 → Mem → Prop} {l0 : Nat} {l2 : Int32} {l3 : Int32} {l4 : Int32} {l5 : Int32} {l6 : Int32} {M : Mem} (hB82 : ∀ (l5 : Int32) (M : Mem), B82 l5 M → xX RX12 cX12_lap 9 (some .int) 3 82 [(0, .ref l0), (2, .int l2), (3, .int l3), (4, .int l4), (5, .int l5)] [] M (xQi Q)) (hk_l0 : SHk l0 = 12) (h : NX12_lap_118 Q B82 l0 l2 l3 l4 l5 l6 M) : xX RX12 cX12_lap 9 (some .int) 3 118 [(0, .ref l0), (2, .int l2), (3, .int l3), (4, .int l4), (5, .int l5), (6, .int l6)] [] M (xQi Q) := by
  obtain ⟨n, h⟩ := h
  have hB118 : ∀ (n : Nat) (l6 : Int32) (M : Mem), xlpn (fun (B : Int32 × Mem → Prop) a => lbX12_lap_118 Q B82 l0 l2 l3 l4 l5 (fun l6 M => B (l6, M)) a.1 a.2) n (l6, M) → xX RX12 cX12_lap 9 (some .int) 3 118 [(0, .ref l0), (2, .int l2), (3, .int l3), (4, .int l4), (5, .int l5), (6, .int l6)] [] M (xQi Q) := by
    intro n
    induction n with
    | zero => intro l6 M h; exact False.elim h
    | succ n ih =>
      intro l6 M h
      have hB118 := ih
      have h : lbX12_lap_118 Q B82 l0 l2 l3 l4 l5 (fun l6 M => xlpn (fun (B : Int32 × Mem → Prop) a => lbX12_lap_118 Q B82 l0 l2 l3 l4 l5 (fun l6 M => B (l6, M)) a.1 a.2) n (l6, M)) l6 M := h
      unfold lbX12_lap_118 at h
      refine x_iload dX12_lap_118 rfl 120 rfl ?_
      refine x_aload_n dX12_lap_120 rfl 121 rfl ?_
      refine gf12_6 dX12_lap_121 124 rfl hk_l0 kw5_165 ?_
      refine x_icmp_ge dX12_lap_124 190 127 rfl rfl (fun hc => ?_) (fun hc => ?_)
      · have h := h.1 hc
        refine x_iconst dX12_lap_190 kc_0 191 rfl ?_
        refine x_istore dX12_lap_191 (Nat.le_of_ble_eq_true rfl) [(0, .ref l0), (2, .int l2), (3, .int l3), (4, .int l4), (5, .int l5), (6, .int 0)] rfl 193 rfl ?_
        exact nX12_lap_193 hB82 hk_l0 h
      · have h := h.2 hc
        refine x_iconst dX12_lap_127 kc_0 128 rfl ?_
        refine x_istore dX12_lap_128 (Nat.le_of_ble_eq_true rfl) [(0, .ref l0), (2, .int l2), (3, .int l3), (4, .int l4), (5, .int l5), (6, .int l6), (7, .int 0)] rfl 130 rfl ?_
        refine x_iconst dX12_lap_130 kc_0 131 rfl ?_
        refine x_istore dX12_lap_131 (Nat.le_of_ble_eq_true rfl) [(0, .ref l0), (2, .int l2), (3, .int l3), (4, .int l4), (5, .int l5), (6, .int l6), (7, .int 0), (8, .int 0)] rfl 133 rfl ?_
        exact nX12_lap_133 hB82 hB118 hk_l0 h
  exact hB118 n l6 M h
def lbX12_lap_82 (Q : Int32 → Mem → Prop) (l0 : Nat) (l2 : Int32) (l3 : Int32) (l4 : Int32) (B82 : Int32 → Mem → Prop) (l5 : Int32) (M : Mem) : Prop :=
  ((10 ≤ l5 → Q (-1) M) ∧ (¬ 10 ≤ l5 → vp_in l2 10 ∧ (((M (l0 + 23) (ix l2)) ≤ 0 → NX12_lap_118 Q B82 l0 l2 l3 l4 l5 0 M) ∧ (¬ (M (l0 + 23) (ix l2)) ≤ 0 → ((¬ l4 = 0 → vp_in l2 10 ∧ Q (M (l0 + 23) (ix l2)) M) ∧ (l4 = 0 → Q l5 M))))))
def NX12_lap_82 (Q : Int32 → Mem → Prop) (l0 : Nat) (l2 : Int32) (l3 : Int32) (l4 : Int32) (l5 : Int32) (M : Mem) : Prop := xlp (fun (B : Int32 × Mem → Prop) a => lbX12_lap_82 Q l0 l2 l3 l4 (fun l5 M => B (l5, M)) a.1 a.2) (l5, M)
theorem nX12_lap_82 {Q : Int32 → Mem → Prop} {l0 : Nat} {l2 : Int32} {l3 : Int32} {l4 : Int32} {l5 : Int32} {M : Mem} (hk_l0 : SHk l0 = 12) (h : NX12_lap_82 Q l0 l2 l3 l4 l5 M) : xX RX12 cX12_lap 9 (some .int) 3 82 [(0, .ref l0), (2, .int l2), (3, .int l3), (4, .int l4), (5, .int l5)] [] M (xQi Q) := by
  obtain ⟨n, h⟩ := h
  have hB82 : ∀ (n : Nat) (l5 : Int32) (M : Mem), xlpn (fun (B : Int32 × Mem → Prop) a => lbX12_lap_82 Q l0 l2 l3 l4 (fun l5 M => B (l5, M)) a.1 a.2) n (l5, M) → xX RX12 cX12_lap 9 (some .int) 3 82 [(0, .ref l0), (2, .int l2), (3, .int l3), (4, .int l4), (5, .int l5)] [] M (xQi Q) := by
    intro n
    induction n with
    | zero => intro l5 M h; exact False.elim h
    | succ n ih =>
      intro l5 M h
      have hB82 := ih
      have h : lbX12_lap_82 Q l0 l2 l3 l4 (fun l5 M => xlpn (fun (B : Int32 × Mem → Prop) a => lbX12_lap_82 Q l0 l2 l3 l4 (fun l5 M => B (l5, M)) a.1 a.2) n (l5, M)) l5 M := h
      unfold lbX12_lap_82 at h
      refine x_iload dX12_lap_82 rfl 84 rfl ?_
      refine x_bipush dX12_lap_84 kb_10 86 rfl ?_
      refine x_icmp_ge dX12_lap_86 228 89 rfl rfl (fun hc => ?_) (fun hc => ?_)
      · have h := h.1 hc
        refine x_iconst dX12_lap_228 kc_m1 229 rfl ?_
        exact x_iret dX12_lap_229 h
      · have h := h.2 hc
        refine x_aload_n dX12_lap_89 rfl 90 rfl ?_
        refine gf12_44 dX12_lap_90 93 rfl hk_l0 kw5_203 ?_
        refine x_iload_n dX12_lap_93 rfl 94 rfl ?_
        obtain ⟨hin, h⟩ := h
        refine x_iaload dX12_lap_94 (ly12_44 hk_l0) hin 95 rfl ?_
        refine x_if_le dX12_lap_95 115 98 rfl rfl (fun hc => ?_) (fun hc => ?_)
        · have h := h.1 hc
          refine x_iconst dX12_lap_115 kc_0 116 rfl ?_
          refine x_istore dX12_lap_116 (Nat.le_of_ble_eq_true rfl) [(0, .ref l0), (2, .int l2), (3, .int l3), (4, .int l4), (5, .int l5), (6, .int 0)] rfl 118 rfl ?_
          exact nX12_lap_118 hB82 hk_l0 h
        · have h := h.2 hc
          refine x_iload dX12_lap_98 rfl 100 rfl ?_
          refine x_if_ne dX12_lap_100 108 103 rfl rfl (fun hc => ?_) (fun hc => ?_)
          · have h := h.1 hc
            refine x_aload_n dX12_lap_108 rfl 109 rfl ?_
            refine gf12_44 dX12_lap_109 112 rfl hk_l0 kw5_203 ?_
            refine x_iload_n dX12_lap_112 rfl 113 rfl ?_
            obtain ⟨hin, h⟩ := h
            refine x_iaload dX12_lap_113 (ly12_44 hk_l0) hin 114 rfl ?_
            exact x_iret dX12_lap_114 h
          · have h := h.2 hc
            refine x_iload dX12_lap_103 rfl 105 rfl ?_
            refine x_goto dX12_lap_105 114 rfl ?_
            exact x_iret dX12_lap_114 h
  exact hB82 n l5 M h
def lbX12_lap_48 (Q : Int32 → Mem → Prop) (l0 : Nat) (l1 : Int32) (l2 : Int32) (l3 : Int32) (l4 : Int32) (B48 : Int32 → Mem → Prop) (l5 : Int32) (M : Mem) : Prop :=
  ((10 ≤ l5 → NX12_lap_82 Q l0 l2 l3 l4 0 M) ∧ (¬ 10 ≤ l5 → ((¬ l5 = l1 → NX12_lap_72 Q B48 l0 l1 l2 l3 l4 l5 (l0 + 23) l5 0 M) ∧ (l5 = l1 → NX12_lap_72 Q B48 l0 l1 l2 l3 l4 l5 (l0 + 23) l5 1 M))))
def NX12_lap_48 (Q : Int32 → Mem → Prop) (l0 : Nat) (l1 : Int32) (l2 : Int32) (l3 : Int32) (l4 : Int32) (l5 : Int32) (M : Mem) : Prop := xlp (fun (B : Int32 × Mem → Prop) a => lbX12_lap_48 Q l0 l1 l2 l3 l4 (fun l5 M => B (l5, M)) a.1 a.2) (l5, M)
theorem nX12_lap_48 {Q : Int32 → Mem → Prop} {l0 : Nat} {l1 : Int32} {l2 : Int32} {l3 : Int32} {l4 : Int32} {l5 : Int32} {M : Mem} (hk_l0 : SHk l0 = 12) (h : NX12_lap_48 Q l0 l1 l2 l3 l4 l5 M) : xX RX12 cX12_lap 9 (some .int) 3 48 [(0, .ref l0), (1, .int l1), (2, .int l2), (3, .int l3), (4, .int l4), (5, .int l5)] [] M (xQi Q) := by
  obtain ⟨n, h⟩ := h
  have hB48 : ∀ (n : Nat) (l5 : Int32) (M : Mem), xlpn (fun (B : Int32 × Mem → Prop) a => lbX12_lap_48 Q l0 l1 l2 l3 l4 (fun l5 M => B (l5, M)) a.1 a.2) n (l5, M) → xX RX12 cX12_lap 9 (some .int) 3 48 [(0, .ref l0), (1, .int l1), (2, .int l2), (3, .int l3), (4, .int l4), (5, .int l5)] [] M (xQi Q) := by
    intro n
    induction n with
    | zero => intro l5 M h; exact False.elim h
    | succ n ih =>
      intro l5 M h
      have hB48 := ih
      have h : lbX12_lap_48 Q l0 l1 l2 l3 l4 (fun l5 M => xlpn (fun (B : Int32 × Mem → Prop) a => lbX12_lap_48 Q l0 l1 l2 l3 l4 (fun l5 M => B (l5, M)) a.1 a.2) n (l5, M)) l5 M := h
      unfold lbX12_lap_48 at h
      refine x_iload dX12_lap_48 rfl 50 rfl ?_
      refine x_bipush dX12_lap_50 kb_10 52 rfl ?_
      refine x_icmp_ge dX12_lap_52 79 55 rfl rfl (fun hc => ?_) (fun hc => ?_)
      · have h := h.1 hc
        refine x_iconst dX12_lap_79 kc_0 80 rfl ?_
        refine x_istore dX12_lap_80 (Nat.le_of_ble_eq_true rfl) [(0, .ref l0), (1, .int l1), (2, .int l2), (3, .int l3), (4, .int l4), (5, .int 0)] rfl 82 rfl ?_
        refine x_weak [(0, .ref l0), (2, .int l2), (3, .int l3), (4, .int l4), (5, .int 0)] [0, 2, 3, 4, 5] rfl ?_
        exact nX12_lap_82 hk_l0 h
      · have h := h.2 hc
        refine x_aload_n dX12_lap_55 rfl 56 rfl ?_
        refine gf12_44 dX12_lap_56 59 rfl hk_l0 kw5_203 ?_
        refine x_iload dX12_lap_59 rfl 61 rfl ?_
        refine x_iload dX12_lap_61 rfl 63 rfl ?_
        refine x_iload_n dX12_lap_63 rfl 64 rfl ?_
        refine x_icmp_ne dX12_lap_64 71 67 rfl rfl (fun hc => ?_) (fun hc => ?_)
        · have h := h.1 hc
          refine x_iconst dX12_lap_71 kc_0 72 rfl ?_
          exact nX12_lap_72 hB48 hk_l0 (ly12_44 hk_l0).1 h
        · have h := h.2 hc
          refine x_iconst dX12_lap_67 kc_1 68 rfl ?_
          refine x_goto dX12_lap_68 72 rfl ?_
          exact nX12_lap_72 hB48 hk_l0 (ly12_44 hk_l0).1 h
  exact hB48 n l5 M h
def FX12_lap (Q : Int32 → Mem → Prop) (l0 : Nat) (l1 : Int32) (l2 : Int32) (l3 : Int32) (l4 : Int32) (M : Mem) : Prop :=
  ∀ M6 : Mem, M6 = xu M l0 0 0 → FX12_isPillar (fun (r7 : Bool) => ((r7 = false → Q (-1) M6) ∧ (r7 = true → FX12_isPillar (fun (r8 : Bool) => ((r8 = false → Q (-1) M6) ∧ (r8 = true → FX12_isIn (fun (r9 : Bool) => ((r9 = false → Q (-1) M6) ∧ (r9 = true → FX12_isIn (fun (r10 : Bool) => ((r10 = true → NX12_lap_48 Q l0 l1 l2 l3 l4 0 M6) ∧ (r10 = false → Q (-1) M6))) l0 l4 0 1 M6))) l0 l3 0 99 M6))) l0 l2 M6))) l0 l1 M6
theorem eX12_lap {Q : Int32 → Mem → Prop} {l0 : Nat} {l1 : Int32} {l2 : Int32} {l3 : Int32} {l4 : Int32} {M : Mem} (hk_l0 : SHk l0 = 12) (h : FX12_lap Q l0 l1 l2 l3 l4 M) : xX RX12 cX12_lap 9 (some .int) 3 0 [(0, .ref l0), (1, .int l1), (2, .int l2), (3, .int l3), (4, .int l4)] [] M (xQi Q) := by
  unfold FX12_lap at h
  refine x_aload_n dX12_lap_0 rfl 1 rfl ?_
  refine x_iconst dX12_lap_1 kc_0 2 rfl ?_
  refine pf12_0 dX12_lap_2 5 rfl hk_l0 kw5_159 (x_mem (fun M6 hM6 => ?_))
  have h := h M6 hM6
  refine x_aload_n dX12_lap_5 rfl 6 rfl ?_
  refine x_iload_n dX12_lap_6 rfl 7 rfl ?_
  refine kX12_isPillar dX12_lap_7 10 rfl hk_l0 kw7_50 (Nat.le_of_ble_eq_true rfl) (Nat.le_of_ble_eq_true rfl) h (fun r7 h => ?_)
  refine x_if_eq_b dX12_lap_10 43 13 rfl rfl (fun hc => ?_) (fun hc => ?_)
  · have h := h.1 hc
    refine x_iconst dX12_lap_43 kc_m1 44 rfl ?_
    exact x_iret dX12_lap_44 h
  · have h := h.2 hc
    refine x_aload_n dX12_lap_13 rfl 14 rfl ?_
    refine x_iload_n dX12_lap_14 rfl 15 rfl ?_
    refine kX12_isPillar dX12_lap_15 18 rfl hk_l0 kw7_50 (Nat.le_of_ble_eq_true rfl) (Nat.le_of_ble_eq_true rfl) h (fun r8 h => ?_)
    refine x_if_eq_b dX12_lap_18 43 21 rfl rfl (fun hc => ?_) (fun hc => ?_)
    · have h := h.1 hc
      refine x_iconst dX12_lap_43 kc_m1 44 rfl ?_
      exact x_iret dX12_lap_44 h
    · have h := h.2 hc
      refine x_aload_n dX12_lap_21 rfl 22 rfl ?_
      refine x_iload_n dX12_lap_22 rfl 23 rfl ?_
      refine x_iconst dX12_lap_23 kc_0 24 rfl ?_
      refine x_bipush dX12_lap_24 kb_99 26 rfl ?_
      refine kX12_isIn dX12_lap_26 29 rfl hk_l0 kw6_82 (Nat.le_of_ble_eq_true rfl) (Nat.le_of_ble_eq_true rfl) h (fun r9 h => ?_)
      refine x_if_eq_b dX12_lap_29 43 32 rfl rfl (fun hc => ?_) (fun hc => ?_)
      · have h := h.1 hc
        refine x_iconst dX12_lap_43 kc_m1 44 rfl ?_
        exact x_iret dX12_lap_44 h
      · have h := h.2 hc
        refine x_aload_n dX12_lap_32 rfl 33 rfl ?_
        refine x_iload dX12_lap_33 rfl 35 rfl ?_
        refine x_iconst dX12_lap_35 kc_0 36 rfl ?_
        refine x_iconst dX12_lap_36 kc_1 37 rfl ?_
        refine kX12_isIn dX12_lap_37 40 rfl hk_l0 kw6_82 (Nat.le_of_ble_eq_true rfl) (Nat.le_of_ble_eq_true rfl) h (fun r10 h => ?_)
        refine x_if_ne_b dX12_lap_40 45 43 rfl rfl (fun hc => ?_) (fun hc => ?_)
        · have h := h.1 hc
          refine x_iconst dX12_lap_45 kc_0 46 rfl ?_
          refine x_istore dX12_lap_46 (Nat.le_of_ble_eq_true rfl) [(0, .ref l0), (1, .int l1), (2, .int l2), (3, .int l3), (4, .int l4), (5, .int 0)] rfl 48 rfl ?_
          exact nX12_lap_48 hk_l0 h
        · have h := h.2 hc
          refine x_iconst dX12_lap_43 kc_m1 44 rfl ?_
          exact x_iret dX12_lap_44 h
theorem cX12_lap_ {Q : Int32 → Mem → Prop} {l0 : Nat} {l1 : Int32} {l2 : Int32} {l3 : Int32} {l4 : Int32} {M : Mem} (hk_l0 : SHk l0 = 12) (h : FX12_lap Q l0 l1 l2 l3 l4 M) : xM yX12_lap cX12_lap 9 (some .int) 3 [.ref l0, .int l1, .int l2, .int l3, .int l4] M (xQi Q) := xM_of (by decide +kernel) (Nat.le_of_ble_eq_true rfl) (eX12_lap hk_l0 h)
theorem kX12_lap {own : String} {cc : ByteArray} {nL : Nat} {rt : Option FieldType} {d pc ix : Nat} {L : List (Nat × Value)} {st : List Value} {M : Mem} {Rt : xGt → Array Value → State → Outcome → State → Prop} {Q : Int32 → Mem → Prop} {l0 : Nat} {l1 : Int32} {l2 : Int32} {l3 : Int32} {l4 : Int32} (hd : decode cc pc = .ok (.invokevirtual ix, 3)) (q : Nat) (hq : pc + 3 = q) (hk_l0 : SHk l0 = 12) (w1 : Cond.methodLink own ix yX12_lap ∈ xTs) (hr : 3 < d) (hst : (st.map fun v => v.category).sum ≤ 8) (h : FX12_lap Q l0 l1 l2 l3 l4 M) (k : ∀ (r : Int32) (N : Mem), Q r N → xX own cc nL rt d q L (.int r :: st) N Rt) : xX own cc nL rt d pc L (.int l4 :: .int l3 :: .int l2 :: .int l1 :: .ref l0 :: st) M Rt :=
  x_callV_i (n := 4) (As := [.int l1, .int l2, .int l3, .int l4]) hd q hq hk_l0 (by decide) rfl rfl w1 kw8_74 kw8_75 kw1_14 kw8_76 (by decide +kernel) rfl hr (by decide) hst _ rfl (cX12_lap_ hk_l0 h) k
