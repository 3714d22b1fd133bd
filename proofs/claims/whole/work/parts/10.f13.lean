def FX12_heapOf (Q : Int32 → Prop) (l0 : Nat) (l1 : Int32) (M : Mem) : Prop :=
  FX12_sitterOf (fun (r1 : Int32) => ((¬ r1 = (-1) → FX12_sitterOf (fun (r2 : Int32) => vp_in (21 + r2) 107 ∧ FX12_far (fun (r3 : Int32) => Q r3) l0 (M (l0 + 1) (ix (21 + r2))) 0 M) l0 l1 M) ∧ (r1 = (-1) → Q 0))) l0 l1 M
theorem eX12_heapOf {Q : Int32 → Prop} {l0 : Nat} {l1 : Int32} {M : Mem} (hk_l0 : SHk l0 = 12) (h : FX12_heapOf Q l0 l1 M) : xX RX12 cX12_heapOf 2 (some .int) 2 0 [(0, .ref l0), (1, .int l1)] [] M (xQi (xP M Q)) := by
  unfold FX12_heapOf at h
  refine x_aload_n dX12_heapOf_0 rfl 1 rfl ?_
  refine x_iload_n dX12_heapOf_1 rfl 2 rfl ?_
  refine kX12_sitterOf dX12_heapOf_2 5 rfl hk_l0 kw6_90 (Nat.le_of_ble_eq_true rfl) (Nat.le_of_ble_eq_true rfl) h (fun r1 h => ?_)
  refine x_iconst dX12_heapOf_5 kc_m1 6 rfl ?_
  refine x_icmp_ne dX12_heapOf_6 13 9 rfl rfl (fun hc => ?_) (fun hc => ?_)
  · have h := h.1 hc
    refine x_aload_n dX12_heapOf_13 rfl 14 rfl ?_
    refine x_aload_n dX12_heapOf_14 rfl 15 rfl ?_
    refine gf12_1 dX12_heapOf_15 18 rfl hk_l0 kw5_160 ?_
    refine x_bipush dX12_heapOf_18 kb_21 20 rfl ?_
    refine x_aload_n dX12_heapOf_20 rfl 21 rfl ?_
    refine x_iload_n dX12_heapOf_21 rfl 22 rfl ?_
    refine kX12_sitterOf dX12_heapOf_22 25 rfl hk_l0 kw6_90 (Nat.le_of_ble_eq_true rfl) (Nat.le_of_ble_eq_true rfl) h (fun r2 h => ?_)
    refine x_iadd dX12_heapOf_25 26 rfl ?_
    obtain ⟨hin, h⟩ := h
    refine x_iaload dX12_heapOf_26 (ly12_1 hk_l0) hin 27 rfl ?_
    refine x_iconst dX12_heapOf_27 kc_0 28 rfl ?_
    refine kX12_far dX12_heapOf_28 31 rfl hk_l0 kw8_2 (Nat.le_of_ble_eq_true rfl) (Nat.le_of_ble_eq_true rfl) h (fun r3 h => ?_)
    exact x_iret dX12_heapOf_31 ⟨rfl, h⟩
  · have h := h.2 hc
    refine x_iconst dX12_heapOf_9 kc_0 10 rfl ?_
    refine x_goto dX12_heapOf_10 31 rfl ?_
    exact x_iret dX12_heapOf_31 ⟨rfl, h⟩
theorem cX12_heapOf_ {Q : Int32 → Prop} {l0 : Nat} {l1 : Int32} {M : Mem} (hk_l0 : SHk l0 = 12) (h : FX12_heapOf Q l0 l1 M) : xM yX12_heapOf cX12_heapOf 2 (some .int) 2 [.ref l0, .int l1] M (xQi (xP M Q)) := xM_of (by decide +kernel) (Nat.le_of_ble_eq_true rfl) (eX12_heapOf hk_l0 h)
theorem kX12_heapOf {own : String} {cc : ByteArray} {nL : Nat} {rt : Option FieldType} {d pc ix : Nat} {L : List (Nat × Value)} {st : List Value} {M : Mem} {Rt : xGt → Array Value → State → Outcome → State → Prop} {Q : Int32 → Prop} {l0 : Nat} {l1 : Int32} (hd : decode cc pc = .ok (.invokevirtual ix, 3)) (q : Nat) (hq : pc + 3 = q) (hk_l0 : SHk l0 = 12) (w1 : Cond.methodLink own ix yX12_heapOf ∈ xTs) (hr : 2 < d) (hst : (st.map fun v => v.category).sum ≤ 8) (h : FX12_heapOf Q l0 l1 M) (k : ∀ (r : Int32), Q r → xX own cc nL rt d q L (.int r :: st) M Rt) : xX own cc nL rt d pc L (.int l1 :: .ref l0 :: st) M Rt :=
  x_callV_i (n := 1) (As := [.int l1]) hd q hq hk_l0 (by decide) rfl rfl w1 kw8_92 ks8_14 kw1_14 kw8_93 (by decide +kernel) rfl hr (by decide) hst _ rfl (cX12_heapOf_ hk_l0 h) (fun r N hN => by obtain ⟨rfl, hN⟩ := hN; exact k r hN)
def lbX12_game_77 (Q : Int32 → Mem → Prop) (B49 : Int32 → Prop) (l0 : Nat) (l1 : Int32) (l2 : Int32) (l3 : Int32) (l4 : Int32) (l5 : Int32) (M : Mem) (B77 : Int32 → Prop) (l6 : Int32) : Prop :=
  FX12_lesser (fun (r1 : Int32) => ((r1 < l6 → B49 (l3 + 1)) ∧ (¬ r1 < l6 → (¬ ((l3 + 2) : Int32) = 0) ∧ ((¬ ((l4 - l6) - (l4 - l6) / (l3 + 2) * (l3 + 2)) = l5 → B77 (l6 + 1)) ∧ (((l4 - l6) - (l4 - l6) / (l3 + 2) * (l3 + 2)) = l5 → ((¬ l1 = 0 → Q l6 M) ∧ (l1 = 0 → Q l3 M))))))) l0 l4 (l3 + 1) M
def NX12_game_77 (Q : Int32 → Mem → Prop) (B49 : Int32 → Prop) (l0 : Nat) (l1 : Int32) (l2 : Int32) (l3 : Int32) (l4 : Int32) (l5 : Int32) (l6 : Int32) (M : Mem) : Prop := xlp (fun (B : Int32 → Prop) a => lbX12_game_77 Q B49 l0 l1 l2 l3 l4 l5 M (fun l6 => B (l6)) a) (l6)
theorem nX12_game_77 {Q : Int32 → Mem → Prop} {B49 : Int32 → Prop} {l0 : Nat} {l1 : Int32} {l2 : Int32} {l3 : Int32} {l4 : Int32} {l5 : Int32} {l6 : Int32} {M : Mem} (hB49 : ∀ (l3 : Int32), B49 l3 → xX RX12 cX12_game 7 (some .int) 3 49 [(0, .ref l0), (1, .int l1), (2, .int l2), (3, .int l3)] [] M (xQi Q)) (hk_l0 : SHk l0 = 12) (h : NX12_game_77 Q B49 l0 l1 l2 l3 l4 l5 l6 M) : xX RX12 cX12_game 7 (some .int) 3 77 [(0, .ref l0), (1, .int l1), (2, .int l2), (3, .int l3), (4, .int l4), (5, .int l5), (6, .int l6)] [] M (xQi Q) := by
  obtain ⟨n, h⟩ := h
  have hB77 : ∀ (n : Nat) (l6 : Int32), xlpn (fun (B : Int32 → Prop) a => lbX12_game_77 Q B49 l0 l1 l2 l3 l4 l5 M (fun l6 => B (l6)) a) n (l6) → xX RX12 cX12_game 7 (some .int) 3 77 [(0, .ref l0), (1, .int l1), (2, .int l2), (3, .int l3), (4, .int l4), (5, .int l5), (6, .int l6)] [] M (xQi Q) := by
    intro n
    induction n with
    | zero => intro l6 h; exact False.elim h
    | succ n ih =>
      intro l6 h
      have hB77 := ih
      have h : lbX12_game_77 Q B49 l0 l1 l2 l3 l4 l5 M (fun l6 => xlpn (fun (B : Int32 → Prop) a => lbX12_game_77 Q B49 l0 l1 l2 l3 l4 l5 M (fun l6 => B (l6)) a) n (l6)) l6 := h
      unfold lbX12_game_77 at h
      refine x_iload dX12_game_77 rfl 79 rfl ?_
      refine x_aload_n dX12_game_79 rfl 80 rfl ?_
      refine x_iload dX12_game_80 rfl 82 rfl ?_
      refine x_iload_n dX12_game_82 rfl 83 rfl ?_
      refine x_iconst dX12_game_83 kc_1 84 rfl ?_
      refine x_iadd dX12_game_84 85 rfl ?_
      refine kX12_lesser dX12_game_85 88 rfl hk_l0 kw7_62 (Nat.le_of_ble_eq_true rfl) (Nat.le_of_ble_eq_true rfl) h (fun r1 h => ?_)
      refine x_icmp_gt dX12_game_88 122 91 rfl rfl (fun hc => ?_) (fun hc => ?_)
      · have h := h.1 hc
        refine x_iinc dX12_game_122 rfl (congrArg (l3 + ·) kc_1) (Nat.le_of_ble_eq_true rfl) [(0, .ref l0), (1, .int l1), (2, .int l2), (3, .int (l3 + 1)), (4, .int l4), (5, .int l5), (6, .int l6)] rfl 125 rfl ?_
        refine x_goto dX12_game_125 49 rfl ?_
        refine x_weak [(0, .ref l0), (1, .int l1), (2, .int l2), (3, .int (l3 + 1))] [0, 1, 2, 3] rfl ?_
        exact hB49 _ h
      · have h := h.2 hc
        refine x_iload dX12_game_91 rfl 93 rfl ?_
        refine x_iload dX12_game_93 rfl 95 rfl ?_
        refine x_isub dX12_game_95 96 rfl ?_
        refine x_iload_n dX12_game_96 rfl 97 rfl ?_
        refine x_iconst dX12_game_97 kc_2 98 rfl ?_
        refine x_iadd dX12_game_98 99 rfl ?_
        obtain ⟨hne, h⟩ := h
        refine x_irem dX12_game_99 hne 100 rfl ?_
        refine x_iload dX12_game_100 rfl 102 rfl ?_
        refine x_icmp_ne dX12_game_102 116 105 rfl rfl (fun hc => ?_) (fun hc => ?_)
        · have h := h.1 hc
          refine x_iinc dX12_game_116 rfl (congrArg (l6 + ·) kc_1) (Nat.le_of_ble_eq_true rfl) [(0, .ref l0), (1, .int l1), (2, .int l2), (3, .int l3), (4, .int l4), (5, .int l5), (6, .int (l6 + 1))] rfl 119 rfl ?_
          refine x_goto dX12_game_119 77 rfl ?_
          exact hB77 _ h
        · have h := h.2 hc
          refine x_iload_n dX12_game_105 rfl 106 rfl ?_
          refine x_if_ne dX12_game_106 113 109 rfl rfl (fun hc => ?_) (fun hc => ?_)
          · have h := h.1 hc
            refine x_iload dX12_game_113 rfl 115 rfl ?_
            exact x_iret dX12_game_115 h
          · have h := h.2 hc
            refine x_iload_n dX12_game_109 rfl 110 rfl ?_
            refine x_goto dX12_game_110 115 rfl ?_
            exact x_iret dX12_game_115 h
  exact hB77 n l6 h
def lbX12_game_49 (Q : Int32 → Mem → Prop) (l0 : Nat) (l1 : Int32) (l2 : Int32) (M : Mem) (B49 : Int32 → Prop) (l3 : Int32) : Prop :=
  (((M l0 6) ≤ l3 → Q (-1) M) ∧ (¬ (M l0 6) ≤ l3 → FX12_heapOf (fun (r2 : Int32) => (¬ ((l3 + 2) : Int32) = 0) ∧ ∀ y3 : Int32, y3 = l2 ^^^ (r2 - r2 / (l3 + 2) * (l3 + 2)) → NX12_game_77 Q B49 l0 l1 l2 l3 r2 y3 1 M) l0 l3 M))
def NX12_game_49 (Q : Int32 → Mem → Prop) (l0 : Nat) (l1 : Int32) (l2 : Int32) (l3 : Int32) (M : Mem) : Prop := xlp (fun (B : Int32 → Prop) a => lbX12_game_49 Q l0 l1 l2 M (fun l3 => B (l3)) a) (l3)
theorem nX12_game_49 {Q : Int32 → Mem → Prop} {l0 : Nat} {l1 : Int32} {l2 : Int32} {l3 : Int32} {M : Mem} (hk_l0 : SHk l0 = 12) (h : NX12_game_49 Q l0 l1 l2 l3 M) : xX RX12 cX12_game 7 (some .int) 3 49 [(0, .ref l0), (1, .int l1), (2, .int l2), (3, .int l3)] [] M (xQi Q) := by
  obtain ⟨n, h⟩ := h
  have hB49 : ∀ (n : Nat) (l3 : Int32), xlpn (fun (B : Int32 → Prop) a => lbX12_game_49 Q l0 l1 l2 M (fun l3 => B (l3)) a) n (l3) → xX RX12 cX12_game 7 (some .int) 3 49 [(0, .ref l0), (1, .int l1), (2, .int l2), (3, .int l3)] [] M (xQi Q) := by
    intro n
    induction n with
    | zero => intro l3 h; exact False.elim h
    | succ n ih =>
      intro l3 h
      have hB49 := ih
      have h : lbX12_game_49 Q l0 l1 l2 M (fun l3 => xlpn (fun (B : Int32 → Prop) a => lbX12_game_49 Q l0 l1 l2 M (fun l3 => B (l3)) a) n (l3)) l3 := h
      unfold lbX12_game_49 at h
      refine x_iload_n dX12_game_49 rfl 50 rfl ?_
      refine x_aload_n dX12_game_50 rfl 51 rfl ?_
      refine gf12_6 dX12_game_51 54 rfl hk_l0 kw5_165 ?_
      refine x_icmp_ge dX12_game_54 128 57 rfl rfl (fun hc => ?_) (fun hc => ?_)
      · have h := h.1 hc
        refine x_iconst dX12_game_128 kc_m1 129 rfl ?_
        exact x_iret dX12_game_129 h
      · have h := h.2 hc
        refine x_aload_n dX12_game_57 rfl 58 rfl ?_
        refine x_iload_n dX12_game_58 rfl 59 rfl ?_
        refine kX12_heapOf dX12_game_59 62 rfl hk_l0 kw8_90 (Nat.le_of_ble_eq_true rfl) (Nat.le_of_ble_eq_true rfl) h (fun r2 h => ?_)
        refine x_istore dX12_game_62 (Nat.le_of_ble_eq_true rfl) [(0, .ref l0), (1, .int l1), (2, .int l2), (3, .int l3), (4, .int r2)] rfl 64 rfl ?_
        refine x_iload_n dX12_game_64 rfl 65 rfl ?_
        refine x_iload dX12_game_65 rfl 67 rfl ?_
        refine x_iload_n dX12_game_67 rfl 68 rfl ?_
        refine x_iconst dX12_game_68 kc_2 69 rfl ?_
        refine x_iadd dX12_game_69 70 rfl ?_
        obtain ⟨hne, h⟩ := h
        refine x_irem dX12_game_70 hne 71 rfl ?_
        refine x_ixor dX12_game_71 72 rfl ?_
        refine x_top (fun y3 hy3 => ?_)
        have h := h y3 hy3
        refine x_istore dX12_game_72 (Nat.le_of_ble_eq_true rfl) [(0, .ref l0), (1, .int l1), (2, .int l2), (3, .int l3), (4, .int r2), (5, .int y3)] rfl 74 rfl ?_
        refine x_iconst dX12_game_74 kc_1 75 rfl ?_
        refine x_istore dX12_game_75 (Nat.le_of_ble_eq_true rfl) [(0, .ref l0), (1, .int l1), (2, .int l2), (3, .int l3), (4, .int r2), (5, .int y3), (6, .int 1)] rfl 77 rfl ?_
        exact nX12_game_77 hB49 hk_l0 h
  exact hB49 n l3 h
def lbX12_game_21 (Q : Int32 → Mem → Prop) (l0 : Nat) (l1 : Int32) (M : Mem) (B21 : Int32 → Int32 → Prop) (l2 : Int32) (l3 : Int32) : Prop :=
  (((M l0 6) ≤ l3 → NX12_game_49 Q l0 l1 l2 0 M) ∧ (¬ (M l0 6) ≤ l3 → FX12_heapOf (fun (r4 : Int32) => (¬ ((l3 + 2) : Int32) = 0) ∧ ∀ y5 : Int32, y5 = l2 ^^^ (r4 - r4 / (l3 + 2) * (l3 + 2)) → B21 y5 (l3 + 1)) l0 l3 M))
def NX12_game_21 (Q : Int32 → Mem → Prop) (l0 : Nat) (l1 : Int32) (l2 : Int32) (l3 : Int32) (M : Mem) : Prop := xlp (fun (B : Int32 × Int32 → Prop) a => lbX12_game_21 Q l0 l1 M (fun l2 l3 => B (l2, l3)) a.1 a.2) (l2, l3)
theorem nX12_game_21 {Q : Int32 → Mem → Prop} {l0 : Nat} {l1 : Int32} {l2 : Int32} {l3 : Int32} {M : Mem} (hk_l0 : SHk l0 = 12) (h : NX12_game_21 Q l0 l1 l2 l3 M) : xX RX12 cX12_game 7 (some .int) 3 21 [(0, .ref l0), (1, .int l1), (2, .int l2), (3, .int l3)] [] M (xQi Q) := by
  obtain ⟨n, h⟩ := h
  have hB21 : ∀ (n : Nat) (l2 : Int32) (l3 : Int32), xlpn (fun (B : Int32 × Int32 → Prop) a => lbX12_game_21 Q l0 l1 M (fun l2 l3 => B (l2, l3)) a.1 a.2) n (l2, l3) → xX RX12 cX12_game 7 (some .int) 3 21 [(0, .ref l0), (1, .int l1), (2, .int l2), (3, .int l3)] [] M (xQi Q) := by
    intro n
    induction n with
    | zero => intro l2 l3 h; exact False.elim h
    | succ n ih =>
      intro l2 l3 h
      have hB21 := ih
      have h : lbX12_game_21 Q l0 l1 M (fun l2 l3 => xlpn (fun (B : Int32 × Int32 → Prop) a => lbX12_game_21 Q l0 l1 M (fun l2 l3 => B (l2, l3)) a.1 a.2) n (l2, l3)) l2 l3 := h
      unfold lbX12_game_21 at h
      refine x_iload_n dX12_game_21 rfl 22 rfl ?_
      refine x_aload_n dX12_game_22 rfl 23 rfl ?_
      refine gf12_6 dX12_game_23 26 rfl hk_l0 kw5_165 ?_
      refine x_icmp_ge dX12_game_26 47 29 rfl rfl (fun hc => ?_) (fun hc => ?_)
      · have h := h.1 hc
        refine x_iconst dX12_game_47 kc_0 48 rfl ?_
        refine x_istore_n dX12_game_48 (Nat.le_of_ble_eq_true rfl) [(0, .ref l0), (1, .int l1), (2, .int l2), (3, .int 0)] rfl 49 rfl ?_
        exact nX12_game_49 hk_l0 h
      · have h := h.2 hc
        refine x_iload_n dX12_game_29 rfl 30 rfl ?_
        refine x_aload_n dX12_game_30 rfl 31 rfl ?_
        refine x_iload_n dX12_game_31 rfl 32 rfl ?_
        refine kX12_heapOf dX12_game_32 35 rfl hk_l0 kw8_90 (Nat.le_of_ble_eq_true rfl) (Nat.le_of_ble_eq_true rfl) h (fun r4 h => ?_)
        refine x_iload_n dX12_game_35 rfl 36 rfl ?_
        refine x_iconst dX12_game_36 kc_2 37 rfl ?_
        refine x_iadd dX12_game_37 38 rfl ?_
        obtain ⟨hne, h⟩ := h
        refine x_irem dX12_game_38 hne 39 rfl ?_
        refine x_ixor dX12_game_39 40 rfl ?_
        refine x_top (fun y5 hy5 => ?_)
        have h := h y5 hy5
        refine x_istore_n dX12_game_40 (Nat.le_of_ble_eq_true rfl) [(0, .ref l0), (1, .int l1), (2, .int y5), (3, .int l3)] rfl 41 rfl ?_
        refine x_iinc dX12_game_41 rfl (congrArg (l3 + ·) kc_1) (Nat.le_of_ble_eq_true rfl) [(0, .ref l0), (1, .int l1), (2, .int y5), (3, .int (l3 + 1))] rfl 44 rfl ?_
        refine x_goto dX12_game_44 21 rfl ?_
        exact hB21 _ _ h
  exact hB21 n l2 l3 h
def FX12_game (Q : Int32 → Mem → Prop) (l0 : Nat) (l1 : Int32) (M : Mem) : Prop :=
  ∀ M6 : Mem, M6 = xu M l0 0 0 → FX12_isIn (fun (r7 : Bool) => ((r7 = true → NX12_game_21 Q l0 l1 0 0 M6) ∧ (r7 = false → Q (-1) M6))) l0 l1 0 1 M6
theorem eX12_game {Q : Int32 → Mem → Prop} {l0 : Nat} {l1 : Int32} {M : Mem} (hk_l0 : SHk l0 = 12) (h : FX12_game Q l0 l1 M) : xX RX12 cX12_game 7 (some .int) 3 0 [(0, .ref l0), (1, .int l1)] [] M (xQi Q) := by
  unfold FX12_game at h
  refine x_aload_n dX12_game_0 rfl 1 rfl ?_
  refine x_iconst dX12_game_1 kc_0 2 rfl ?_
  refine pf12_0 dX12_game_2 5 rfl hk_l0 kw5_159 (x_mem (fun M6 hM6 => ?_))
  have h := h M6 hM6
  refine x_aload_n dX12_game_5 rfl 6 rfl ?_
  refine x_iload_n dX12_game_6 rfl 7 rfl ?_
  refine x_iconst dX12_game_7 kc_0 8 rfl ?_
  refine x_iconst dX12_game_8 kc_1 9 rfl ?_
  refine kX12_isIn dX12_game_9 12 rfl hk_l0 kw6_82 (Nat.le_of_ble_eq_true rfl) (Nat.le_of_ble_eq_true rfl) h (fun r7 h => ?_)
  refine x_if_ne_b dX12_game_12 17 15 rfl rfl (fun hc => ?_) (fun hc => ?_)
  · have h := h.1 hc
    refine x_iconst dX12_game_17 kc_0 18 rfl ?_
    refine x_istore_n dX12_game_18 (Nat.le_of_ble_eq_true rfl) [(0, .ref l0), (1, .int l1), (2, .int 0)] rfl 19 rfl ?_
    refine x_iconst dX12_game_19 kc_0 20 rfl ?_
    refine x_istore_n dX12_game_20 (Nat.le_of_ble_eq_true rfl) [(0, .ref l0), (1, .int l1), (2, .int 0), (3, .int 0)] rfl 21 rfl ?_
    exact nX12_game_21 hk_l0 h
  · have h := h.2 hc
    refine x_iconst dX12_game_15 kc_m1 16 rfl ?_
    exact x_iret dX12_game_16 h
theorem cX12_game_ {Q : Int32 → Mem → Prop} {l0 : Nat} {l1 : Int32} {M : Mem} (hk_l0 : SHk l0 = 12) (h : FX12_game Q l0 l1 M) : xM yX12_game cX12_game 7 (some .int) 3 [.ref l0, .int l1] M (xQi Q) := xM_of (by decide +kernel) (Nat.le_of_ble_eq_true rfl) (eX12_game hk_l0 h)
theorem kX12_game {own : String} {cc : ByteArray} {nL : Nat} {rt : Option FieldType} {d pc ix : Nat} {L : List (Nat × Value)} {st : List Value} {M : Mem} {Rt : xGt → Array Value → State → Outcome → State → Prop} {Q : Int32 → Mem → Prop} {l0 : Nat} {l1 : Int32} (hd : decode cc pc = .ok (.invokevirtual ix, 3)) (q : Nat) (hq : pc + 3 = q) (hk_l0 : SHk l0 = 12) (w1 : Cond.methodLink own ix yX12_game ∈ xTs) (hr : 3 < d) (hst : (st.map fun v => v.category).sum ≤ 8) (h : FX12_game Q l0 l1 M) (k : ∀ (r : Int32) (N : Mem), Q r N → xX own cc nL rt d q L (.int r :: st) N Rt) : xX own cc nL rt d pc L (.int l1 :: .ref l0 :: st) M Rt :=
  x_callV_i (n := 1) (As := [.int l1]) hd q hq hk_l0 (by decide) rfl rfl w1 kw8_87 kw8_88 kw1_14 kw8_89 (by decide +kernel) rfl hr (by decide) hst _ rfl (cX12_game_ hk_l0 h) k
def FX12_keeps (Q : Int32 → Mem → Prop) (l0 : Nat) (l1 : Int32) (M : Mem) : Prop :=
  ∀ M1 : Mem, M1 = xu M l0 48 ((M l0 48) + 1) → ((¬ (M1 l0 46) = 0 → vp_in ((M1 l0 48) - 1) 2100 ∧ ∀ M2 : Mem, M2 = xu M1 (l0 + 25) (ix ((M1 l0 48) - 1)) l1 → Q l1 M2) ∧ ((M1 l0 46) = 0 → vp_in ((M1 l0 48) - 1) 2100 ∧ Q (M1 (l0 + 25) (ix ((M1 l0 48) - 1))) M1))
theorem eX12_keeps {Q : Int32 → Mem → Prop} {l0 : Nat} {l1 : Int32} {M : Mem} (hk_l0 : SHk l0 = 12) (h : FX12_keeps Q l0 l1 M) : xX RX12 cX12_keeps 2 (some .int) 1 0 [(0, .ref l0), (1, .int l1)] [] M (xQi Q) := by
  unfold FX12_keeps at h
  refine x_aload_n dX12_keeps_0 rfl 1 rfl ?_
  refine x_aload_n dX12_keeps_1 rfl 2 rfl ?_
  refine gf12_48 dX12_keeps_2 5 rfl hk_l0 kw5_207 ?_
  refine x_iconst dX12_keeps_5 kc_1 6 rfl ?_
  refine x_iadd dX12_keeps_6 7 rfl ?_
  refine pf12_48 dX12_keeps_7 10 rfl hk_l0 kw5_207 (x_mem (fun M1 hM1 => ?_))
  have h := h M1 hM1
  refine x_aload_n dX12_keeps_10 rfl 11 rfl ?_
  refine gf12_46 dX12_keeps_11 14 rfl hk_l0 kw5_205 ?_
  refine x_if_ne dX12_keeps_14 29 17 rfl rfl (fun hc => ?_) (fun hc => ?_)
  · have h := h.1 hc
    refine x_aload_n dX12_keeps_29 rfl 30 rfl ?_
    refine gf12_49 dX12_keeps_30 33 rfl hk_l0 kw5_208 ?_
    refine x_aload_n dX12_keeps_33 rfl 34 rfl ?_
    refine gf12_48 dX12_keeps_34 37 rfl hk_l0 kw5_207 ?_
    refine x_iconst dX12_keeps_37 kc_1 38 rfl ?_
    refine x_isub dX12_keeps_38 39 rfl ?_
    refine x_iload_n dX12_keeps_39 rfl 40 rfl ?_
    obtain ⟨hin, h⟩ := h
    refine x_iastore dX12_keeps_40 (ly12_49 hk_l0) hin 41 rfl (x_mem (fun M2 hM2 => ?_))
    have h := h M2 hM2
    refine x_iload_n dX12_keeps_41 rfl 42 rfl ?_
    exact x_iret dX12_keeps_42 h
  · have h := h.2 hc
    refine x_aload_n dX12_keeps_17 rfl 18 rfl ?_
    refine gf12_49 dX12_keeps_18 21 rfl hk_l0 kw5_208 ?_
    refine x_aload_n dX12_keeps_21 rfl 22 rfl ?_
    refine gf12_48 dX12_keeps_22 25 rfl hk_l0 kw5_207 ?_
    refine x_iconst dX12_keeps_25 kc_1 26 rfl ?_
    refine x_isub dX12_keeps_26 27 rfl ?_
    obtain ⟨hin, h⟩ := h
    refine x_iaload dX12_keeps_27 (ly12_49 hk_l0) hin 28 rfl ?_
    exact x_iret dX12_keeps_28 h
theorem cX12_keeps_ {Q : Int32 → Mem → Prop} {l0 : Nat} {l1 : Int32} {M : Mem} (hk_l0 : SHk l0 = 12) (h : FX12_keeps Q l0 l1 M) : xM yX12_keeps cX12_keeps 2 (some .int) 1 [.ref l0, .int l1] M (xQi Q) := xM_of (by decide +kernel) (Nat.le_of_ble_eq_true rfl) (eX12_keeps hk_l0 h)
theorem kX12_keeps {own : String} {cc : ByteArray} {nL : Nat} {rt : Option FieldType} {d pc ix : Nat} {L : List (Nat × Value)} {st : List Value} {M : Mem} {Rt : xGt → Array Value → State → Outcome → State → Prop} {Q : Int32 → Mem → Prop} {l0 : Nat} {l1 : Int32} (hd : decode cc pc = .ok (.invokevirtual ix, 3)) (q : Nat) (hq : pc + 3 = q) (hk_l0 : SHk l0 = 12) (w1 : Cond.methodLink own ix yX12_keeps ∈ xTs) (hr : 1 < d) (hst : (st.map fun v => v.category).sum ≤ 8) (h : FX12_keeps Q l0 l1 M) (k : ∀ (r : Int32) (N : Mem), Q r N → xX own cc nL rt d q L (.int r :: st) N Rt) : xX own cc nL rt d pc L (.int l1 :: .ref l0 :: st) M Rt :=
  x_callV_i (n := 1) (As := [.int l1]) hd q hq hk_l0 (by decide) rfl rfl w1 kw8_100 ks8_15 kw1_14 kw8_101 (by decide +kernel) rfl hr (by decide) hst _ rfl (cX12_keeps_ hk_l0 h) k
def lbX12_keepsLaw_96 (Q : Mem → Prop) (l0 : Nat) (B96 : Int32 → Mem → Prop) (l1 : Int32) (M : Mem) : Prop :=
  ((400 ≤ l1 → Q M) ∧ (¬ 400 ≤ l1 → vp_in l1 1200 ∧ FX12_keeps (fun (r2 : Int32) (M1 : Mem) => vp_in l1 1200 ∧ ∀ M3 : Mem, M3 = xu M1 (l0 + 13) (ix l1) r2 → vp_in l1 1200 ∧ FX12_keeps (fun (r5 : Int32) (M4 : Mem) => vp_in l1 1200 ∧ ∀ M6 : Mem, M6 = xu M4 (l0 + 14) (ix l1) r5 → B96 (l1 + 1) M6) l0 (M3 (l0 + 14) (ix l1)) M3) l0 (M (l0 + 13) (ix l1)) M))
def NX12_keepsLaw_96 (Q : Mem → Prop) (l0 : Nat) (l1 : Int32) (M : Mem) : Prop := xlp (fun (B : Int32 × Mem → Prop) a => lbX12_keepsLaw_96 Q l0 (fun l1 M => B (l1, M)) a.1 a.2) (l1, M)
theorem nX12_keepsLaw_96 {Q : Mem → Prop} {l0 : Nat} {l1 : Int32} {M : Mem} (hk_l0 : SHk l0 = 12) (h : NX12_keepsLaw_96 Q l0 l1 M) : xX RX12 cX12_keepsLaw 2 none 2 96 [(0, .ref l0), (1, .int l1)] [] M (xQv Q) := by
  obtain ⟨n, h⟩ := h
  have hB96 : ∀ (n : Nat) (l1 : Int32) (M : Mem), xlpn (fun (B : Int32 × Mem → Prop) a => lbX12_keepsLaw_96 Q l0 (fun l1 M => B (l1, M)) a.1 a.2) n (l1, M) → xX RX12 cX12_keepsLaw 2 none 2 96 [(0, .ref l0), (1, .int l1)] [] M (xQv Q) := by
    intro n
    induction n with
    | zero => intro l1 M h; exact False.elim h
    | succ n ih =>
      intro l1 M h
      have hB96 := ih
      have h : lbX12_keepsLaw_96 Q l0 (fun l1 M => xlpn (fun (B : Int32 × Mem → Prop) a => lbX12_keepsLaw_96 Q l0 (fun l1 M => B (l1, M)) a.1 a.2) n (l1, M)) l1 M := h
      unfold lbX12_keepsLaw_96 at h
      refine x_iload_n dX12_keepsLaw_96 rfl 97 rfl ?_
      refine x_sipush dX12_keepsLaw_97 kh_400 100 rfl ?_
      refine x_icmp_ge dX12_keepsLaw_100 141 103 rfl rfl (fun hc => ?_) (fun hc => ?_)
      · have h := h.1 hc
        exact x_vret dX12_keepsLaw_141 h
      · have h := h.2 hc
        refine x_aload_n dX12_keepsLaw_103 rfl 104 rfl ?_
        refine gf12_22 dX12_keepsLaw_104 107 rfl hk_l0 kw5_181 ?_
        refine x_iload_n dX12_keepsLaw_107 rfl 108 rfl ?_
        refine x_aload_n dX12_keepsLaw_108 rfl 109 rfl ?_
        refine x_aload_n dX12_keepsLaw_109 rfl 110 rfl ?_
        refine gf12_22 dX12_keepsLaw_110 113 rfl hk_l0 kw5_181 ?_
        refine x_iload_n dX12_keepsLaw_113 rfl 114 rfl ?_
        obtain ⟨hin, h⟩ := h
        refine x_iaload dX12_keepsLaw_114 (ly12_22 hk_l0) hin 115 rfl ?_
        refine kX12_keeps dX12_keepsLaw_115 118 rfl hk_l0 kw8_98 (Nat.le_of_ble_eq_true rfl) (Nat.le_of_ble_eq_true rfl) h (fun r2 M1 h => ?_)
        obtain ⟨hin, h⟩ := h
        refine x_iastore dX12_keepsLaw_118 (ly12_22 hk_l0) hin 119 rfl (x_mem (fun M3 hM3 => ?_))
        have h := h M3 hM3
        refine x_aload_n dX12_keepsLaw_119 rfl 120 rfl ?_
        refine gf12_23 dX12_keepsLaw_120 123 rfl hk_l0 kw5_182 ?_
        refine x_iload_n dX12_keepsLaw_123 rfl 124 rfl ?_
        refine x_aload_n dX12_keepsLaw_124 rfl 125 rfl ?_
        refine x_aload_n dX12_keepsLaw_125 rfl 126 rfl ?_
        refine gf12_23 dX12_keepsLaw_126 129 rfl hk_l0 kw5_182 ?_
        refine x_iload_n dX12_keepsLaw_129 rfl 130 rfl ?_
        obtain ⟨hin, h⟩ := h
        refine x_iaload dX12_keepsLaw_130 (ly12_23 hk_l0) hin 131 rfl ?_
        refine kX12_keeps dX12_keepsLaw_131 134 rfl hk_l0 kw8_98 (Nat.le_of_ble_eq_true rfl) (Nat.le_of_ble_eq_true rfl) h (fun r5 M4 h => ?_)
        obtain ⟨hin, h⟩ := h
        refine x_iastore dX12_keepsLaw_134 (ly12_23 hk_l0) hin 135 rfl (x_mem (fun M6 hM6 => ?_))
        have h := h M6 hM6
        refine x_iinc dX12_keepsLaw_135 rfl (congrArg (l1 + ·) kc_1) (Nat.le_of_ble_eq_true rfl) [(0, .ref l0), (1, .int (l1 + 1))] rfl 138 rfl ?_
        refine x_goto dX12_keepsLaw_138 96 rfl ?_
        exact hB96 _ _ h
  exact hB96 n l1 M h
def lbX12_keepsLaw_18 (Q : Mem → Prop) (l0 : Nat) (B18 : Int32 → Mem → Prop) (l1 : Int32) (M : Mem) : Prop :=
  ((16 ≤ l1 → NX12_keepsLaw_96 Q l0 0 M) ∧ (¬ 16 ≤ l1 → vp_in l1 48 ∧ FX12_keeps (fun (r8 : Int32) (M7 : Mem) => vp_in l1 48 ∧ ∀ M9 : Mem, M9 = xu M7 (l0 + 9) (ix l1) r8 → vp_in l1 48 ∧ FX12_keeps (fun (r11 : Int32) (M10 : Mem) => vp_in l1 48 ∧ ∀ M12 : Mem, M12 = xu M10 (l0 + 10) (ix l1) r11 → vp_in l1 48 ∧ FX12_keeps (fun (r14 : Int32) (M13 : Mem) => vp_in l1 48 ∧ ∀ M15 : Mem, M15 = xu M13 (l0 + 11) (ix l1) r14 → vp_in l1 48 ∧ FX12_keeps (fun (r17 : Int32) (M16 : Mem) => vp_in l1 48 ∧ ∀ M18 : Mem, M18 = xu M16 (l0 + 12) (ix l1) r17 → B18 (l1 + 1) M18) l0 (M15 (l0 + 12) (ix l1)) M15) l0 (M12 (l0 + 11) (ix l1)) M12) l0 (M9 (l0 + 10) (ix l1)) M9) l0 (M (l0 + 9) (ix l1)) M))
def NX12_keepsLaw_18 (Q : Mem → Prop) (l0 : Nat) (l1 : Int32) (M : Mem) : Prop := xlp (fun (B : Int32 × Mem → Prop) a => lbX12_keepsLaw_18 Q l0 (fun l1 M => B (l1, M)) a.1 a.2) (l1, M)
theorem nX12_keepsLaw_18 {Q : Mem → Prop} {l0 : Nat} {l1 : Int32} {M : Mem} (hk_l0 : SHk l0 = 12) (h : NX12_keepsLaw_18 Q l0 l1 M) : xX RX12 cX12_keepsLaw 2 none 2 18 [(0, .ref l0), (1, .int l1)] [] M (xQv Q) := by
  obtain ⟨n, h⟩ := h
  have hB18 : ∀ (n : Nat) (l1 : Int32) (M : Mem), xlpn (fun (B : Int32 × Mem → Prop) a => lbX12_keepsLaw_18 Q l0 (fun l1 M => B (l1, M)) a.1 a.2) n (l1, M) → xX RX12 cX12_keepsLaw 2 none 2 18 [(0, .ref l0), (1, .int l1)] [] M (xQv Q) := by
    intro n
    induction n with
    | zero => intro l1 M h; exact False.elim h
    | succ n ih =>
      intro l1 M h
      have hB18 := ih
      have h : lbX12_keepsLaw_18 Q l0 (fun l1 M => xlpn (fun (B : Int32 × Mem → Prop) a => lbX12_keepsLaw_18 Q l0 (fun l1 M => B (l1, M)) a.1 a.2) n (l1, M)) l1 M := h
      unfold lbX12_keepsLaw_18 at h
      refine x_iload_n dX12_keepsLaw_18 rfl 19 rfl ?_
      refine x_bipush dX12_keepsLaw_19 kb_16 21 rfl ?_
      refine x_icmp_ge dX12_keepsLaw_21 94 24 rfl rfl (fun hc => ?_) (fun hc => ?_)
      · have h := h.1 hc
        refine x_iconst dX12_keepsLaw_94 kc_0 95 rfl ?_
        refine x_istore_n dX12_keepsLaw_95 (Nat.le_of_ble_eq_true rfl) [(0, .ref l0), (1, .int 0)] rfl 96 rfl ?_
        exact nX12_keepsLaw_96 hk_l0 h
      · have h := h.2 hc
        refine x_aload_n dX12_keepsLaw_24 rfl 25 rfl ?_
        refine gf12_18 dX12_keepsLaw_25 28 rfl hk_l0 kw5_177 ?_
        refine x_iload_n dX12_keepsLaw_28 rfl 29 rfl ?_
        refine x_aload_n dX12_keepsLaw_29 rfl 30 rfl ?_
        refine x_aload_n dX12_keepsLaw_30 rfl 31 rfl ?_
        refine gf12_18 dX12_keepsLaw_31 34 rfl hk_l0 kw5_177 ?_
        refine x_iload_n dX12_keepsLaw_34 rfl 35 rfl ?_
        obtain ⟨hin, h⟩ := h
        refine x_iaload dX12_keepsLaw_35 (ly12_18 hk_l0) hin 36 rfl ?_
        refine kX12_keeps dX12_keepsLaw_36 39 rfl hk_l0 kw8_98 (Nat.le_of_ble_eq_true rfl) (Nat.le_of_ble_eq_true rfl) h (fun r8 M7 h => ?_)
        obtain ⟨hin, h⟩ := h
        refine x_iastore dX12_keepsLaw_39 (ly12_18 hk_l0) hin 40 rfl (x_mem (fun M9 hM9 => ?_))
        have h := h M9 hM9
        refine x_aload_n dX12_keepsLaw_40 rfl 41 rfl ?_
        refine gf12_19 dX12_keepsLaw_41 44 rfl hk_l0 kw5_178 ?_
        refine x_iload_n dX12_keepsLaw_44 rfl 45 rfl ?_
        refine x_aload_n dX12_keepsLaw_45 rfl 46 rfl ?_
        refine x_aload_n dX12_keepsLaw_46 rfl 47 rfl ?_
        refine gf12_19 dX12_keepsLaw_47 50 rfl hk_l0 kw5_178 ?_
        refine x_iload_n dX12_keepsLaw_50 rfl 51 rfl ?_
        obtain ⟨hin, h⟩ := h
        refine x_iaload dX12_keepsLaw_51 (ly12_19 hk_l0) hin 52 rfl ?_
        refine kX12_keeps dX12_keepsLaw_52 55 rfl hk_l0 kw8_98 (Nat.le_of_ble_eq_true rfl) (Nat.le_of_ble_eq_true rfl) h (fun r11 M10 h => ?_)
        obtain ⟨hin, h⟩ := h
        refine x_iastore dX12_keepsLaw_55 (ly12_19 hk_l0) hin 56 rfl (x_mem (fun M12 hM12 => ?_))
        have h := h M12 hM12
        refine x_aload_n dX12_keepsLaw_56 rfl 57 rfl ?_
        refine gf12_20 dX12_keepsLaw_57 60 rfl hk_l0 kw5_179 ?_
        refine x_iload_n dX12_keepsLaw_60 rfl 61 rfl ?_
        refine x_aload_n dX12_keepsLaw_61 rfl 62 rfl ?_
        refine x_aload_n dX12_keepsLaw_62 rfl 63 rfl ?_
        refine gf12_20 dX12_keepsLaw_63 66 rfl hk_l0 kw5_179 ?_
        refine x_iload_n dX12_keepsLaw_66 rfl 67 rfl ?_
        obtain ⟨hin, h⟩ := h
        refine x_iaload dX12_keepsLaw_67 (ly12_20 hk_l0) hin 68 rfl ?_
        refine kX12_keeps dX12_keepsLaw_68 71 rfl hk_l0 kw8_98 (Nat.le_of_ble_eq_true rfl) (Nat.le_of_ble_eq_true rfl) h (fun r14 M13 h => ?_)
        obtain ⟨hin, h⟩ := h
        refine x_iastore dX12_keepsLaw_71 (ly12_20 hk_l0) hin 72 rfl (x_mem (fun M15 hM15 => ?_))
        have h := h M15 hM15
        refine x_aload_n dX12_keepsLaw_72 rfl 73 rfl ?_
        refine gf12_21 dX12_keepsLaw_73 76 rfl hk_l0 kw5_180 ?_
        refine x_iload_n dX12_keepsLaw_76 rfl 77 rfl ?_
        refine x_aload_n dX12_keepsLaw_77 rfl 78 rfl ?_
        refine x_aload_n dX12_keepsLaw_78 rfl 79 rfl ?_
        refine gf12_21 dX12_keepsLaw_79 82 rfl hk_l0 kw5_180 ?_
        refine x_iload_n dX12_keepsLaw_82 rfl 83 rfl ?_
        obtain ⟨hin, h⟩ := h
        refine x_iaload dX12_keepsLaw_83 (ly12_21 hk_l0) hin 84 rfl ?_
        refine kX12_keeps dX12_keepsLaw_84 87 rfl hk_l0 kw8_98 (Nat.le_of_ble_eq_true rfl) (Nat.le_of_ble_eq_true rfl) h (fun r17 M16 h => ?_)
        obtain ⟨hin, h⟩ := h
        refine x_iastore dX12_keepsLaw_87 (ly12_21 hk_l0) hin 88 rfl (x_mem (fun M18 hM18 => ?_))
        have h := h M18 hM18
        refine x_iinc dX12_keepsLaw_88 rfl (congrArg (l1 + ·) kc_1) (Nat.le_of_ble_eq_true rfl) [(0, .ref l0), (1, .int (l1 + 1))] rfl 91 rfl ?_
        refine x_goto dX12_keepsLaw_91 18 rfl ?_
        exact hB18 _ _ h
  exact hB18 n l1 M h
def FX12_keepsLaw (Q : Mem → Prop) (l0 : Nat) (M : Mem) : Prop :=
  FX12_keeps (fun (r20 : Int32) (M19 : Mem) => ∀ M21 : Mem, M21 = xu M19 (l0 + 8) (0) r20 → NX12_keepsLaw_18 Q l0 0 M21) l0 (M (l0 + 8) 0) M
theorem eX12_keepsLaw {Q : Mem → Prop} {l0 : Nat} {M : Mem} (hk_l0 : SHk l0 = 12) (h : FX12_keepsLaw Q l0 M) : xX RX12 cX12_keepsLaw 2 none 2 0 [(0, .ref l0)] [] M (xQv Q) := by
  unfold FX12_keepsLaw at h
  refine x_aload_n dX12_keepsLaw_0 rfl 1 rfl ?_
  refine gf12_17 dX12_keepsLaw_1 4 rfl hk_l0 kw5_176 ?_
  refine x_iconst dX12_keepsLaw_4 kc_0 5 rfl ?_
  refine x_aload_n dX12_keepsLaw_5 rfl 6 rfl ?_
  refine x_aload_n dX12_keepsLaw_6 rfl 7 rfl ?_
  refine gf12_17 dX12_keepsLaw_7 10 rfl hk_l0 kw5_176 ?_
  refine x_iconst dX12_keepsLaw_10 kc_0 11 rfl ?_
  refine x_iaload dX12_keepsLaw_11 (ly12_17 hk_l0) (by unfold vp_in; decide) 12 rfl ?_
  refine kX12_keeps dX12_keepsLaw_12 15 rfl hk_l0 kw8_98 (Nat.le_of_ble_eq_true rfl) (Nat.le_of_ble_eq_true rfl) h (fun r20 M19 h => ?_)
  refine x_iastore dX12_keepsLaw_15 (ly12_17 hk_l0) (by unfold vp_in; decide) 16 rfl (x_mem (fun M21 hM21 => ?_))
  have h := h M21 hM21
  refine x_iconst dX12_keepsLaw_16 kc_0 17 rfl ?_
  refine x_istore_n dX12_keepsLaw_17 (Nat.le_of_ble_eq_true rfl) [(0, .ref l0), (1, .int 0)] rfl 18 rfl ?_
  exact nX12_keepsLaw_18 hk_l0 h
theorem cX12_keepsLaw_ {Q : Mem → Prop} {l0 : Nat} {M : Mem} (hk_l0 : SHk l0 = 12) (h : FX12_keepsLaw Q l0 M) : xM yX12_keepsLaw cX12_keepsLaw 2 none 2 [.ref l0] M (xQv Q) := xM_of (by decide +kernel) (Nat.le_of_ble_eq_true rfl) (eX12_keepsLaw hk_l0 h)
theorem kX12_keepsLaw {own : String} {cc : ByteArray} {nL : Nat} {rt : Option FieldType} {d pc ix : Nat} {L : List (Nat × Value)} {st : List Value} {M : Mem} {Rt : xGt → Array Value → State → Outcome → State → Prop} {Q : Mem → Prop} {l0 : Nat} (hd : decode cc pc = .ok (.invokevirtual ix, 3)) (q : Nat) (hq : pc + 3 = q) (hk_l0 : SHk l0 = 12) (w1 : Cond.methodLink own ix yX12_keepsLaw ∈ xTs) (hr : 2 < d) (hst : (st.map fun v => v.category).sum ≤ 8) (h : FX12_keepsLaw Q l0 M) (k : ∀ (N : Mem), Q N → xX own cc nL rt d q L st N Rt) : xX own cc nL rt d pc L (.ref l0 :: st) M Rt :=
  x_callV_v (n := 0) (As := []) hd q hq hk_l0 (by decide) rfl rfl w1 kw8_108 ks9_1 kw1_14 kw8_109 (by decide +kernel) rfl hr (by decide) hst _ rfl (cX12_keepsLaw_ hk_l0 h) k
def lbX12_keepsTold_196 (Q : Mem → Prop) (l0 : Nat) (B196 : Int32 → Mem → Prop) (l1 : Int32) (M : Mem) : Prop :=
  ((64 ≤ l1 → Q M) ∧ (¬ 64 ≤ l1 → vp_in l1 128 ∧ FX12_keeps (fun (r2 : Int32) (M1 : Mem) => vp_in l1 128 ∧ ∀ M3 : Mem, M3 = xu M1 (l0 + 17) (ix l1) r2 → B196 (l1 + 1) M3) l0 (M (l0 + 17) (ix l1)) M))
def NX12_keepsTold_196 (Q : Mem → Prop) (l0 : Nat) (l1 : Int32) (M : Mem) : Prop := xlp (fun (B : Int32 × Mem → Prop) a => lbX12_keepsTold_196 Q l0 (fun l1 M => B (l1, M)) a.1 a.2) (l1, M)
theorem nX12_keepsTold_196 {Q : Mem → Prop} {l0 : Nat} {l1 : Int32} {M : Mem} (hk_l0 : SHk l0 = 12) (h : NX12_keepsTold_196 Q l0 l1 M) : xX RX12 cX12_keepsTold 2 none 2 196 [(0, .ref l0), (1, .int l1)] [] M (xQv Q) := by
  obtain ⟨n, h⟩ := h
  have hB196 : ∀ (n : Nat) (l1 : Int32) (M : Mem), xlpn (fun (B : Int32 × Mem → Prop) a => lbX12_keepsTold_196 Q l0 (fun l1 M => B (l1, M)) a.1 a.2) n (l1, M) → xX RX12 cX12_keepsTold 2 none 2 196 [(0, .ref l0), (1, .int l1)] [] M (xQv Q) := by
    intro n
    induction n with
    | zero => intro l1 M h; exact False.elim h
    | succ n ih =>
      intro l1 M h
      have hB196 := ih
      have h : lbX12_keepsTold_196 Q l0 (fun l1 M => xlpn (fun (B : Int32 × Mem → Prop) a => lbX12_keepsTold_196 Q l0 (fun l1 M => B (l1, M)) a.1 a.2) n (l1, M)) l1 M := h
      unfold lbX12_keepsTold_196 at h
      refine x_iload_n dX12_keepsTold_196 rfl 197 rfl ?_
      refine x_bipush dX12_keepsTold_197 kb_64 199 rfl ?_
      refine x_icmp_ge dX12_keepsTold_199 224 202 rfl rfl (fun hc => ?_) (fun hc => ?_)
      · have h := h.1 hc
        exact x_vret dX12_keepsTold_224 h
      · have h := h.2 hc
        refine x_aload_n dX12_keepsTold_202 rfl 203 rfl ?_
        refine gf12_36 dX12_keepsTold_203 206 rfl hk_l0 kw5_195 ?_
        refine x_iload_n dX12_keepsTold_206 rfl 207 rfl ?_
        refine x_aload_n dX12_keepsTold_207 rfl 208 rfl ?_
        refine x_aload_n dX12_keepsTold_208 rfl 209 rfl ?_
        refine gf12_36 dX12_keepsTold_209 212 rfl hk_l0 kw5_195 ?_
        refine x_iload_n dX12_keepsTold_212 rfl 213 rfl ?_
        obtain ⟨hin, h⟩ := h
        refine x_iaload dX12_keepsTold_213 (ly12_36 hk_l0) hin 214 rfl ?_
        refine kX12_keeps dX12_keepsTold_214 217 rfl hk_l0 kw8_98 (Nat.le_of_ble_eq_true rfl) (Nat.le_of_ble_eq_true rfl) h (fun r2 M1 h => ?_)
        obtain ⟨hin, h⟩ := h
        refine x_iastore dX12_keepsTold_217 (ly12_36 hk_l0) hin 218 rfl (x_mem (fun M3 hM3 => ?_))
        have h := h M3 hM3
        refine x_iinc dX12_keepsTold_218 rfl (congrArg (l1 + ·) kc_1) (Nat.le_of_ble_eq_true rfl) [(0, .ref l0), (1, .int (l1 + 1))] rfl 221 rfl ?_
        refine x_goto dX12_keepsTold_221 196 rfl ?_
        exact hB196 _ _ h
  exact hB196 n l1 M h
def lbX12_keepsTold_150 (Q : Mem → Prop) (l0 : Nat) (B150 : Int32 → Mem → Prop) (l1 : Int32) (M : Mem) : Prop :=
  ((32 ≤ l1 → NX12_keepsTold_196 Q l0 0 M) ∧ (¬ 32 ≤ l1 → vp_in l1 64 ∧ FX12_keeps (fun (r5 : Int32) (M4 : Mem) => vp_in l1 64 ∧ ∀ M6 : Mem, M6 = xu M4 (l0 + 16) (ix l1) r5 → vp_in l1 64 ∧ FX12_keeps (fun (r8 : Int32) (M7 : Mem) => vp_in l1 64 ∧ ∀ M9 : Mem, M9 = xu M7 (l0 + 18) (ix l1) r8 → B150 (l1 + 1) M9) l0 (M6 (l0 + 18) (ix l1)) M6) l0 (M (l0 + 16) (ix l1)) M))
def NX12_keepsTold_150 (Q : Mem → Prop) (l0 : Nat) (l1 : Int32) (M : Mem) : Prop := xlp (fun (B : Int32 × Mem → Prop) a => lbX12_keepsTold_150 Q l0 (fun l1 M => B (l1, M)) a.1 a.2) (l1, M)
theorem nX12_keepsTold_150 {Q : Mem → Prop} {l0 : Nat} {l1 : Int32} {M : Mem} (hk_l0 : SHk l0 = 12) (h : NX12_keepsTold_150 Q l0 l1 M) : xX RX12 cX12_keepsTold 2 none 2 150 [(0, .ref l0), (1, .int l1)] [] M (xQv Q) := by
  obtain ⟨n, h⟩ := h
  have hB150 : ∀ (n : Nat) (l1 : Int32) (M : Mem), xlpn (fun (B : Int32 × Mem → Prop) a => lbX12_keepsTold_150 Q l0 (fun l1 M => B (l1, M)) a.1 a.2) n (l1, M) → xX RX12 cX12_keepsTold 2 none 2 150 [(0, .ref l0), (1, .int l1)] [] M (xQv Q) := by
    intro n
    induction n with
    | zero => intro l1 M h; exact False.elim h
    | succ n ih =>
      intro l1 M h
      have hB150 := ih
      have h : lbX12_keepsTold_150 Q l0 (fun l1 M => xlpn (fun (B : Int32 × Mem → Prop) a => lbX12_keepsTold_150 Q l0 (fun l1 M => B (l1, M)) a.1 a.2) n (l1, M)) l1 M := h
      unfold lbX12_keepsTold_150 at h
      refine x_iload_n dX12_keepsTold_150 rfl 151 rfl ?_
      refine x_bipush dX12_keepsTold_151 kb_32 153 rfl ?_
      refine x_icmp_ge dX12_keepsTold_153 194 156 rfl rfl (fun hc => ?_) (fun hc => ?_)
      · have h := h.1 hc
        refine x_iconst dX12_keepsTold_194 kc_0 195 rfl ?_
        refine x_istore_n dX12_keepsTold_195 (Nat.le_of_ble_eq_true rfl) [(0, .ref l0), (1, .int 0)] rfl 196 rfl ?_
        exact nX12_keepsTold_196 hk_l0 h
      · have h := h.2 hc
        refine x_aload_n dX12_keepsTold_156 rfl 157 rfl ?_
        refine gf12_34 dX12_keepsTold_157 160 rfl hk_l0 kw5_193 ?_
        refine x_iload_n dX12_keepsTold_160 rfl 161 rfl ?_
        refine x_aload_n dX12_keepsTold_161 rfl 162 rfl ?_
        refine x_aload_n dX12_keepsTold_162 rfl 163 rfl ?_
        refine gf12_34 dX12_keepsTold_163 166 rfl hk_l0 kw5_193 ?_
        refine x_iload_n dX12_keepsTold_166 rfl 167 rfl ?_
        obtain ⟨hin, h⟩ := h
        refine x_iaload dX12_keepsTold_167 (ly12_34 hk_l0) hin 168 rfl ?_
        refine kX12_keeps dX12_keepsTold_168 171 rfl hk_l0 kw8_98 (Nat.le_of_ble_eq_true rfl) (Nat.le_of_ble_eq_true rfl) h (fun r5 M4 h => ?_)
        obtain ⟨hin, h⟩ := h
        refine x_iastore dX12_keepsTold_171 (ly12_34 hk_l0) hin 172 rfl (x_mem (fun M6 hM6 => ?_))
        have h := h M6 hM6
        refine x_aload_n dX12_keepsTold_172 rfl 173 rfl ?_
        refine gf12_38 dX12_keepsTold_173 176 rfl hk_l0 kw5_197 ?_
        refine x_iload_n dX12_keepsTold_176 rfl 177 rfl ?_
        refine x_aload_n dX12_keepsTold_177 rfl 178 rfl ?_
        refine x_aload_n dX12_keepsTold_178 rfl 179 rfl ?_
        refine gf12_38 dX12_keepsTold_179 182 rfl hk_l0 kw5_197 ?_
        refine x_iload_n dX12_keepsTold_182 rfl 183 rfl ?_
        obtain ⟨hin, h⟩ := h
        refine x_iaload dX12_keepsTold_183 (ly12_38 hk_l0) hin 184 rfl ?_
        refine kX12_keeps dX12_keepsTold_184 187 rfl hk_l0 kw8_98 (Nat.le_of_ble_eq_true rfl) (Nat.le_of_ble_eq_true rfl) h (fun r8 M7 h => ?_)
        obtain ⟨hin, h⟩ := h
        refine x_iastore dX12_keepsTold_187 (ly12_38 hk_l0) hin 188 rfl (x_mem (fun M9 hM9 => ?_))
        have h := h M9 hM9
        refine x_iinc dX12_keepsTold_188 rfl (congrArg (l1 + ·) kc_1) (Nat.le_of_ble_eq_true rfl) [(0, .ref l0), (1, .int (l1 + 1))] rfl 191 rfl ?_
        refine x_goto dX12_keepsTold_191 150 rfl ?_
        exact hB150 _ _ h
  exact hB150 n l1 M h
def lbX12_keepsTold_104 (Q : Mem → Prop) (l0 : Nat) (B104 : Int32 → Mem → Prop) (l1 : Int32) (M : Mem) : Prop :=
  ((7 ≤ l1 → NX12_keepsTold_150 Q l0 0 M) ∧ (¬ 7 ≤ l1 → vp_in l1 7 ∧ FX12_keeps (fun (r11 : Int32) (M10 : Mem) => vp_in l1 7 ∧ ∀ M12 : Mem, M12 = xu M10 (l0 + 21) (ix l1) r11 → vp_in l1 7 ∧ FX12_keeps (fun (r14 : Int32) (M13 : Mem) => vp_in l1 7 ∧ ∀ M15 : Mem, M15 = xu M13 (l0 + 22) (ix l1) r14 → B104 (l1 + 1) M15) l0 (M12 (l0 + 22) (ix l1)) M12) l0 (M (l0 + 21) (ix l1)) M))
def NX12_keepsTold_104 (Q : Mem → Prop) (l0 : Nat) (l1 : Int32) (M : Mem) : Prop := xlp (fun (B : Int32 × Mem → Prop) a => lbX12_keepsTold_104 Q l0 (fun l1 M => B (l1, M)) a.1 a.2) (l1, M)
theorem nX12_keepsTold_104 {Q : Mem → Prop} {l0 : Nat} {l1 : Int32} {M : Mem} (hk_l0 : SHk l0 = 12) (h : NX12_keepsTold_104 Q l0 l1 M) : xX RX12 cX12_keepsTold 2 none 2 104 [(0, .ref l0), (1, .int l1)] [] M (xQv Q) := by
  obtain ⟨n, h⟩ := h
  have hB104 : ∀ (n : Nat) (l1 : Int32) (M : Mem), xlpn (fun (B : Int32 × Mem → Prop) a => lbX12_keepsTold_104 Q l0 (fun l1 M => B (l1, M)) a.1 a.2) n (l1, M) → xX RX12 cX12_keepsTold 2 none 2 104 [(0, .ref l0), (1, .int l1)] [] M (xQv Q) := by
    intro n
    induction n with
    | zero => intro l1 M h; exact False.elim h
    | succ n ih =>
      intro l1 M h
      have hB104 := ih
      have h : lbX12_keepsTold_104 Q l0 (fun l1 M => xlpn (fun (B : Int32 × Mem → Prop) a => lbX12_keepsTold_104 Q l0 (fun l1 M => B (l1, M)) a.1 a.2) n (l1, M)) l1 M := h
      unfold lbX12_keepsTold_104 at h
      refine x_iload_n dX12_keepsTold_104 rfl 105 rfl ?_
      refine x_bipush dX12_keepsTold_105 kb_7 107 rfl ?_
      refine x_icmp_ge dX12_keepsTold_107 148 110 rfl rfl (fun hc => ?_) (fun hc => ?_)
      · have h := h.1 hc
        refine x_iconst dX12_keepsTold_148 kc_0 149 rfl ?_
        refine x_istore_n dX12_keepsTold_149 (Nat.le_of_ble_eq_true rfl) [(0, .ref l0), (1, .int 0)] rfl 150 rfl ?_
        exact nX12_keepsTold_150 hk_l0 h
      · have h := h.2 hc
        refine x_aload_n dX12_keepsTold_110 rfl 111 rfl ?_
        refine gf12_42 dX12_keepsTold_111 114 rfl hk_l0 kw5_201 ?_
        refine x_iload_n dX12_keepsTold_114 rfl 115 rfl ?_
        refine x_aload_n dX12_keepsTold_115 rfl 116 rfl ?_
        refine x_aload_n dX12_keepsTold_116 rfl 117 rfl ?_
        refine gf12_42 dX12_keepsTold_117 120 rfl hk_l0 kw5_201 ?_
        refine x_iload_n dX12_keepsTold_120 rfl 121 rfl ?_
        obtain ⟨hin, h⟩ := h
        refine x_iaload dX12_keepsTold_121 (ly12_42 hk_l0) hin 122 rfl ?_
        refine kX12_keeps dX12_keepsTold_122 125 rfl hk_l0 kw8_98 (Nat.le_of_ble_eq_true rfl) (Nat.le_of_ble_eq_true rfl) h (fun r11 M10 h => ?_)
        obtain ⟨hin, h⟩ := h
        refine x_iastore dX12_keepsTold_125 (ly12_42 hk_l0) hin 126 rfl (x_mem (fun M12 hM12 => ?_))
        have h := h M12 hM12
        refine x_aload_n dX12_keepsTold_126 rfl 127 rfl ?_
        refine gf12_43 dX12_keepsTold_127 130 rfl hk_l0 kw5_202 ?_
        refine x_iload_n dX12_keepsTold_130 rfl 131 rfl ?_
        refine x_aload_n dX12_keepsTold_131 rfl 132 rfl ?_
        refine x_aload_n dX12_keepsTold_132 rfl 133 rfl ?_
        refine gf12_43 dX12_keepsTold_133 136 rfl hk_l0 kw5_202 ?_
        refine x_iload_n dX12_keepsTold_136 rfl 137 rfl ?_
        obtain ⟨hin, h⟩ := h
        refine x_iaload dX12_keepsTold_137 (ly12_43 hk_l0) hin 138 rfl ?_
        refine kX12_keeps dX12_keepsTold_138 141 rfl hk_l0 kw8_98 (Nat.le_of_ble_eq_true rfl) (Nat.le_of_ble_eq_true rfl) h (fun r14 M13 h => ?_)
        obtain ⟨hin, h⟩ := h
        refine x_iastore dX12_keepsTold_141 (ly12_43 hk_l0) hin 142 rfl (x_mem (fun M15 hM15 => ?_))
        have h := h M15 hM15
        refine x_iinc dX12_keepsTold_142 rfl (congrArg (l1 + ·) kc_1) (Nat.le_of_ble_eq_true rfl) [(0, .ref l0), (1, .int (l1 + 1))] rfl 145 rfl ?_
        refine x_goto dX12_keepsTold_145 104 rfl ?_
        exact hB104 _ _ h
  exact hB104 n l1 M h
def lbX12_keepsTold_74 (Q : Mem → Prop) (l0 : Nat) (B74 : Int32 → Mem → Prop) (l1 : Int32) (M : Mem) : Prop :=
  ((14 ≤ l1 → NX12_keepsTold_104 Q l0 0 M) ∧ (¬ 14 ≤ l1 → vp_in l1 14 ∧ FX12_keeps (fun (r17 : Int32) (M16 : Mem) => vp_in l1 14 ∧ ∀ M18 : Mem, M18 = xu M16 (l0 + 4) (ix l1) r17 → B74 (l1 + 1) M18) l0 (M (l0 + 4) (ix l1)) M))
def NX12_keepsTold_74 (Q : Mem → Prop) (l0 : Nat) (l1 : Int32) (M : Mem) : Prop := xlp (fun (B : Int32 × Mem → Prop) a => lbX12_keepsTold_74 Q l0 (fun l1 M => B (l1, M)) a.1 a.2) (l1, M)
theorem nX12_keepsTold_74 {Q : Mem → Prop} {l0 : Nat} {l1 : Int32} {M : Mem} (hk_l0 : SHk l0 = 12) (h : NX12_keepsTold_74 Q l0 l1 M) : xX RX12 cX12_keepsTold 2 none 2 74 [(0, .ref l0), (1, .int l1)] [] M (xQv Q) := by
  obtain ⟨n, h⟩ := h
  have hB74 : ∀ (n : Nat) (l1 : Int32) (M : Mem), xlpn (fun (B : Int32 × Mem → Prop) a => lbX12_keepsTold_74 Q l0 (fun l1 M => B (l1, M)) a.1 a.2) n (l1, M) → xX RX12 cX12_keepsTold 2 none 2 74 [(0, .ref l0), (1, .int l1)] [] M (xQv Q) := by
    intro n
    induction n with
    | zero => intro l1 M h; exact False.elim h
    | succ n ih =>
      intro l1 M h
      have hB74 := ih
      have h : lbX12_keepsTold_74 Q l0 (fun l1 M => xlpn (fun (B : Int32 × Mem → Prop) a => lbX12_keepsTold_74 Q l0 (fun l1 M => B (l1, M)) a.1 a.2) n (l1, M)) l1 M := h
      unfold lbX12_keepsTold_74 at h
      refine x_iload_n dX12_keepsTold_74 rfl 75 rfl ?_
      refine x_bipush dX12_keepsTold_75 kb_14 77 rfl ?_
      refine x_icmp_ge dX12_keepsTold_77 102 80 rfl rfl (fun hc => ?_) (fun hc => ?_)
      · have h := h.1 hc
        refine x_iconst dX12_keepsTold_102 kc_0 103 rfl ?_
        refine x_istore_n dX12_keepsTold_103 (Nat.le_of_ble_eq_true rfl) [(0, .ref l0), (1, .int 0)] rfl 104 rfl ?_
        exact nX12_keepsTold_104 hk_l0 h
      · have h := h.2 hc
        refine x_aload_n dX12_keepsTold_80 rfl 81 rfl ?_
        refine gf12_8 dX12_keepsTold_81 84 rfl hk_l0 kw5_167 ?_
        refine x_iload_n dX12_keepsTold_84 rfl 85 rfl ?_
        refine x_aload_n dX12_keepsTold_85 rfl 86 rfl ?_
        refine x_aload_n dX12_keepsTold_86 rfl 87 rfl ?_
        refine gf12_8 dX12_keepsTold_87 90 rfl hk_l0 kw5_167 ?_
        refine x_iload_n dX12_keepsTold_90 rfl 91 rfl ?_
        obtain ⟨hin, h⟩ := h
        refine x_iaload dX12_keepsTold_91 (ly12_8 hk_l0) hin 92 rfl ?_
        refine kX12_keeps dX12_keepsTold_92 95 rfl hk_l0 kw8_98 (Nat.le_of_ble_eq_true rfl) (Nat.le_of_ble_eq_true rfl) h (fun r17 M16 h => ?_)
        obtain ⟨hin, h⟩ := h
        refine x_iastore dX12_keepsTold_95 (ly12_8 hk_l0) hin 96 rfl (x_mem (fun M18 hM18 => ?_))
        have h := h M18 hM18
        refine x_iinc dX12_keepsTold_96 rfl (congrArg (l1 + ·) kc_1) (Nat.le_of_ble_eq_true rfl) [(0, .ref l0), (1, .int (l1 + 1))] rfl 99 rfl ?_
        refine x_goto dX12_keepsTold_99 74 rfl ?_
        exact hB74 _ _ h
  exact hB74 n l1 M h
def FX12_keepsTold (Q : Mem → Prop) (l0 : Nat) (M : Mem) : Prop :=
  FX12_keeps (fun (r20 : Int32) (M19 : Mem) => ∀ M21 : Mem, M21 = xu M19 l0 6 r20 → FX12_keeps (fun (r23 : Int32) (M22 : Mem) => ∀ M24 : Mem, M24 = xu M22 l0 7 r23 → FX12_keeps (fun (r26 : Int32) (M25 : Mem) => ∀ M27 : Mem, M27 = xu M25 l0 33 r26 → FX12_keeps (fun (r29 : Int32) (M28 : Mem) => ∀ M30 : Mem, M30 = xu M28 l0 35 r29 → FX12_keeps (fun (r32 : Int32) (M31 : Mem) => ∀ M33 : Mem, M33 = xu M31 l0 37 r32 → FX12_keeps (fun (r35 : Int32) (M34 : Mem) => ∀ M36 : Mem, M36 = xu M34 l0 41 r35 → NX12_keepsTold_74 Q l0 0 M36) l0 (M33 l0 41) M33) l0 (M30 l0 37) M30) l0 (M27 l0 35) M27) l0 (M24 l0 33) M24) l0 (M21 l0 7) M21) l0 (M l0 6) M
theorem eX12_keepsTold {Q : Mem → Prop} {l0 : Nat} {M : Mem} (hk_l0 : SHk l0 = 12) (h : FX12_keepsTold Q l0 M) : xX RX12 cX12_keepsTold 2 none 2 0 [(0, .ref l0)] [] M (xQv Q) := by
  unfold FX12_keepsTold at h
  refine x_aload_n dX12_keepsTold_0 rfl 1 rfl ?_
  refine x_aload_n dX12_keepsTold_1 rfl 2 rfl ?_
  refine x_aload_n dX12_keepsTold_2 rfl 3 rfl ?_
  refine gf12_6 dX12_keepsTold_3 6 rfl hk_l0 kw5_165 ?_
  refine kX12_keeps dX12_keepsTold_6 9 rfl hk_l0 kw8_98 (Nat.le_of_ble_eq_true rfl) (Nat.le_of_ble_eq_true rfl) h (fun r20 M19 h => ?_)
  refine pf12_6 dX12_keepsTold_9 12 rfl hk_l0 kw5_165 (x_mem (fun M21 hM21 => ?_))
  have h := h M21 hM21
  refine x_aload_n dX12_keepsTold_12 rfl 13 rfl ?_
  refine x_aload_n dX12_keepsTold_13 rfl 14 rfl ?_
  refine x_aload_n dX12_keepsTold_14 rfl 15 rfl ?_
  refine gf12_7 dX12_keepsTold_15 18 rfl hk_l0 kw5_166 ?_
  refine kX12_keeps dX12_keepsTold_18 21 rfl hk_l0 kw8_98 (Nat.le_of_ble_eq_true rfl) (Nat.le_of_ble_eq_true rfl) h (fun r23 M22 h => ?_)
  refine pf12_7 dX12_keepsTold_21 24 rfl hk_l0 kw5_166 (x_mem (fun M24 hM24 => ?_))
  have h := h M24 hM24
  refine x_aload_n dX12_keepsTold_24 rfl 25 rfl ?_
  refine x_aload_n dX12_keepsTold_25 rfl 26 rfl ?_
  refine x_aload_n dX12_keepsTold_26 rfl 27 rfl ?_
  refine gf12_33 dX12_keepsTold_27 30 rfl hk_l0 kw5_192 ?_
  refine kX12_keeps dX12_keepsTold_30 33 rfl hk_l0 kw8_98 (Nat.le_of_ble_eq_true rfl) (Nat.le_of_ble_eq_true rfl) h (fun r26 M25 h => ?_)
  refine pf12_33 dX12_keepsTold_33 36 rfl hk_l0 kw5_192 (x_mem (fun M27 hM27 => ?_))
  have h := h M27 hM27
  refine x_aload_n dX12_keepsTold_36 rfl 37 rfl ?_
  refine x_aload_n dX12_keepsTold_37 rfl 38 rfl ?_
  refine x_aload_n dX12_keepsTold_38 rfl 39 rfl ?_
  refine gf12_35 dX12_keepsTold_39 42 rfl hk_l0 kw5_194 ?_
  refine kX12_keeps dX12_keepsTold_42 45 rfl hk_l0 kw8_98 (Nat.le_of_ble_eq_true rfl) (Nat.le_of_ble_eq_true rfl) h (fun r29 M28 h => ?_)
  refine pf12_35 dX12_keepsTold_45 48 rfl hk_l0 kw5_194 (x_mem (fun M30 hM30 => ?_))
  have h := h M30 hM30
  refine x_aload_n dX12_keepsTold_48 rfl 49 rfl ?_
  refine x_aload_n dX12_keepsTold_49 rfl 50 rfl ?_
  refine x_aload_n dX12_keepsTold_50 rfl 51 rfl ?_
  refine gf12_37 dX12_keepsTold_51 54 rfl hk_l0 kw5_196 ?_
  refine kX12_keeps dX12_keepsTold_54 57 rfl hk_l0 kw8_98 (Nat.le_of_ble_eq_true rfl) (Nat.le_of_ble_eq_true rfl) h (fun r32 M31 h => ?_)
  refine pf12_37 dX12_keepsTold_57 60 rfl hk_l0 kw5_196 (x_mem (fun M33 hM33 => ?_))
  have h := h M33 hM33
  refine x_aload_n dX12_keepsTold_60 rfl 61 rfl ?_
  refine x_aload_n dX12_keepsTold_61 rfl 62 rfl ?_
  refine x_aload_n dX12_keepsTold_62 rfl 63 rfl ?_
  refine gf12_41 dX12_keepsTold_63 66 rfl hk_l0 kw5_200 ?_
  refine kX12_keeps dX12_keepsTold_66 69 rfl hk_l0 kw8_98 (Nat.le_of_ble_eq_true rfl) (Nat.le_of_ble_eq_true rfl) h (fun r35 M34 h => ?_)
  refine pf12_41 dX12_keepsTold_69 72 rfl hk_l0 kw5_200 (x_mem (fun M36 hM36 => ?_))
  have h := h M36 hM36
  refine x_iconst dX12_keepsTold_72 kc_0 73 rfl ?_
  refine x_istore_n dX12_keepsTold_73 (Nat.le_of_ble_eq_true rfl) [(0, .ref l0), (1, .int 0)] rfl 74 rfl ?_
  exact nX12_keepsTold_74 hk_l0 h
theorem cX12_keepsTold_ {Q : Mem → Prop} {l0 : Nat} {M : Mem} (hk_l0 : SHk l0 = 12) (h : FX12_keepsTold Q l0 M) : xM yX12_keepsTold cX12_keepsTold 2 none 2 [.ref l0] M (xQv Q) := xM_of (by decide +kernel) (Nat.le_of_ble_eq_true rfl) (eX12_keepsTold hk_l0 h)
theorem kX12_keepsTold {own : String} {cc : ByteArray} {nL : Nat} {rt : Option FieldType} {d pc ix : Nat} {L : List (Nat × Value)} {st : List Value} {M : Mem} {Rt : xGt → Array Value → State → Outcome → State → Prop} {Q : Mem → Prop} {l0 : Nat} (hd : decode cc pc = .ok (.invokevirtual ix, 3)) (q : Nat) (hq : pc + 3 = q) (hk_l0 : SHk l0 = 12) (w1 : Cond.methodLink own ix yX12_keepsTold ∈ xTs) (hr : 2 < d) (hst : (st.map fun v => v.category).sum ≤ 8) (h : FX12_keepsTold Q l0 M) (k : ∀ (N : Mem), Q N → xX own cc nL rt d q L st N Rt) : xX own cc nL rt d pc L (.ref l0 :: st) M Rt :=
  x_callV_v (n := 0) (As := []) hd q hq hk_l0 (by decide) rfl rfl w1 kw8_104 ks9_0 kw1_14 kw8_105 (by decide +kernel) rfl hr (by decide) hst _ rfl (cX12_keepsTold_ hk_l0 h) k
def lbX12_image_69 (Q : Bool → Mem → Prop) (l0 : Nat) (l1 : Int32) (B69 : Int32 → Mem → Prop) (l2 : Int32) (M : Mem) : Prop :=
  ((600 ≤ l2 → FX12_keepsLaw (fun (M1 : Mem) => ((¬ l1 = 0 → Q true M1) ∧ (l1 = 0 → ∀ M2 : Mem, M2 = xu M1 l0 3 0 → Q true M2))) l0 M) ∧ (¬ 600 ≤ l2 → vp_in l2 600 ∧ FX12_keeps (fun (r4 : Int32) (M3 : Mem) => vp_in l2 600 ∧ ∀ M5 : Mem, M5 = xu M3 (l0 + 5) (ix l2) r4 → B69 (l2 + 1) M5) l0 (M (l0 + 5) (ix l2)) M))
def NX12_image_69 (Q : Bool → Mem → Prop) (l0 : Nat) (l1 : Int32) (l2 : Int32) (M : Mem) : Prop := xlp (fun (B : Int32 × Mem → Prop) a => lbX12_image_69 Q l0 l1 (fun l2 M => B (l2, M)) a.1 a.2) (l2, M)
theorem nX12_image_69 {Q : Bool → Mem → Prop} {l0 : Nat} {l1 : Int32} {l2 : Int32} {M : Mem} (hk_l0 : SHk l0 = 12) (h : NX12_image_69 Q l0 l1 l2 M) : xX RX12 cX12_image 3 (some .boolean) 3 69 [(0, .ref l0), (1, .int l1), (2, .int l2)] [] M (xQb Q) := by
  obtain ⟨n, h⟩ := h
  have hB69 : ∀ (n : Nat) (l2 : Int32) (M : Mem), xlpn (fun (B : Int32 × Mem → Prop) a => lbX12_image_69 Q l0 l1 (fun l2 M => B (l2, M)) a.1 a.2) n (l2, M) → xX RX12 cX12_image 3 (some .boolean) 3 69 [(0, .ref l0), (1, .int l1), (2, .int l2)] [] M (xQb Q) := by
    intro n
    induction n with
    | zero => intro l2 M h; exact False.elim h
    | succ n ih =>
      intro l2 M h
      have hB69 := ih
      have h : lbX12_image_69 Q l0 l1 (fun l2 M => xlpn (fun (B : Int32 × Mem → Prop) a => lbX12_image_69 Q l0 l1 (fun l2 M => B (l2, M)) a.1 a.2) n (l2, M)) l2 M := h
      unfold lbX12_image_69 at h
      refine x_iload_n dX12_image_69 rfl 70 rfl ?_
      refine x_sipush dX12_image_70 kh_600 73 rfl ?_
      refine x_icmp_ge dX12_image_73 98 76 rfl rfl (fun hc => ?_) (fun hc => ?_)
      · have h := h.1 hc
        refine x_aload_n dX12_image_98 rfl 99 rfl ?_
        refine kX12_keepsLaw dX12_image_99 102 rfl hk_l0 kw8_106 (Nat.le_of_ble_eq_true rfl) (Nat.le_of_ble_eq_true rfl) h (fun M1 h => ?_)
        refine x_iload_n dX12_image_102 rfl 103 rfl ?_
        refine x_if_ne dX12_image_103 111 106 rfl rfl (fun hc => ?_) (fun hc => ?_)
        · have h := h.1 hc
          refine x_iconst dX12_image_111 kc_1 112 rfl ?_
          exact x_zret (z := true) dX12_image_112 h
        · have h := h.2 hc
          refine x_aload_n dX12_image_106 rfl 107 rfl ?_
          refine x_iconst dX12_image_107 kc_0 108 rfl ?_
          refine pf12_3 dX12_image_108 111 rfl hk_l0 kw5_162 (x_mem (fun M2 hM2 => ?_))
          have h := h M2 hM2
          refine x_iconst dX12_image_111 kc_1 112 rfl ?_
          exact x_zret (z := true) dX12_image_112 h
      · have h := h.2 hc
        refine x_aload_n dX12_image_76 rfl 77 rfl ?_
        refine gf12_9 dX12_image_77 80 rfl hk_l0 kw5_168 ?_
        refine x_iload_n dX12_image_80 rfl 81 rfl ?_
        refine x_aload_n dX12_image_81 rfl 82 rfl ?_
        refine x_aload_n dX12_image_82 rfl 83 rfl ?_
        refine gf12_9 dX12_image_83 86 rfl hk_l0 kw5_168 ?_
        refine x_iload_n dX12_image_86 rfl 87 rfl ?_
        obtain ⟨hin, h⟩ := h
        refine x_iaload dX12_image_87 (ly12_9 hk_l0) hin 88 rfl ?_
        refine kX12_keeps dX12_image_88 91 rfl hk_l0 kw8_98 (Nat.le_of_ble_eq_true rfl) (Nat.le_of_ble_eq_true rfl) h (fun r4 M3 h => ?_)
        obtain ⟨hin, h⟩ := h
        refine x_iastore dX12_image_91 (ly12_9 hk_l0) hin 92 rfl (x_mem (fun M5 hM5 => ?_))
        have h := h M5 hM5
        refine x_iinc dX12_image_92 rfl (congrArg (l2 + ·) kc_1) (Nat.le_of_ble_eq_true rfl) [(0, .ref l0), (1, .int l1), (2, .int (l2 + 1))] rfl 95 rfl ?_
        refine x_goto dX12_image_95 69 rfl ?_
        exact hB69 _ _ h
  exact hB69 n l2 M h
def lbX12_image_35 (Q : Bool → Mem → Prop) (l0 : Nat) (l1 : Int32) (B35 : Int32 → Mem → Prop) (l2 : Int32) (M : Mem) : Prop :=
  ((107 ≤ l2 → FX12_keepsTold (fun (M6 : Mem) => NX12_image_69 Q l0 l1 0 M6) l0 M) ∧ (¬ 107 ≤ l2 → vp_in l2 107 ∧ FX12_keeps (fun (r8 : Int32) (M7 : Mem) => vp_in l2 107 ∧ ∀ M9 : Mem, M9 = xu M7 (l0 + 1) (ix l2) r8 → B35 (l2 + 1) M9) l0 (M (l0 + 1) (ix l2)) M))
def NX12_image_35 (Q : Bool → Mem → Prop) (l0 : Nat) (l1 : Int32) (l2 : Int32) (M : Mem) : Prop := xlp (fun (B : Int32 × Mem → Prop) a => lbX12_image_35 Q l0 l1 (fun l2 M => B (l2, M)) a.1 a.2) (l2, M)
theorem nX12_image_35 {Q : Bool → Mem → Prop} {l0 : Nat} {l1 : Int32} {l2 : Int32} {M : Mem} (hk_l0 : SHk l0 = 12) (h : NX12_image_35 Q l0 l1 l2 M) : xX RX12 cX12_image 3 (some .boolean) 3 35 [(0, .ref l0), (1, .int l1), (2, .int l2)] [] M (xQb Q) := by
  obtain ⟨n, h⟩ := h
  have hB35 : ∀ (n : Nat) (l2 : Int32) (M : Mem), xlpn (fun (B : Int32 × Mem → Prop) a => lbX12_image_35 Q l0 l1 (fun l2 M => B (l2, M)) a.1 a.2) n (l2, M) → xX RX12 cX12_image 3 (some .boolean) 3 35 [(0, .ref l0), (1, .int l1), (2, .int l2)] [] M (xQb Q) := by
    intro n
    induction n with
    | zero => intro l2 M h; exact False.elim h
    | succ n ih =>
      intro l2 M h
      have hB35 := ih
      have h : lbX12_image_35 Q l0 l1 (fun l2 M => xlpn (fun (B : Int32 × Mem → Prop) a => lbX12_image_35 Q l0 l1 (fun l2 M => B (l2, M)) a.1 a.2) n (l2, M)) l2 M := h
      unfold lbX12_image_35 at h
      refine x_iload_n dX12_image_35 rfl 36 rfl ?_
      refine x_bipush dX12_image_36 kb_107 38 rfl ?_
      refine x_icmp_ge dX12_image_38 63 41 rfl rfl (fun hc => ?_) (fun hc => ?_)
      · have h := h.1 hc
        refine x_aload_n dX12_image_63 rfl 64 rfl ?_
        refine kX12_keepsTold dX12_image_64 67 rfl hk_l0 kw8_102 (Nat.le_of_ble_eq_true rfl) (Nat.le_of_ble_eq_true rfl) h (fun M6 h => ?_)
        refine x_iconst dX12_image_67 kc_0 68 rfl ?_
        refine x_istore_n dX12_image_68 (Nat.le_of_ble_eq_true rfl) [(0, .ref l0), (1, .int l1), (2, .int 0)] rfl 69 rfl ?_
        exact nX12_image_69 hk_l0 h
      · have h := h.2 hc
        refine x_aload_n dX12_image_41 rfl 42 rfl ?_
        refine gf12_1 dX12_image_42 45 rfl hk_l0 kw5_160 ?_
        refine x_iload_n dX12_image_45 rfl 46 rfl ?_
        refine x_aload_n dX12_image_46 rfl 47 rfl ?_
        refine x_aload_n dX12_image_47 rfl 48 rfl ?_
        refine gf12_1 dX12_image_48 51 rfl hk_l0 kw5_160 ?_
        refine x_iload_n dX12_image_51 rfl 52 rfl ?_
        obtain ⟨hin, h⟩ := h
        refine x_iaload dX12_image_52 (ly12_1 hk_l0) hin 53 rfl ?_
        refine kX12_keeps dX12_image_53 56 rfl hk_l0 kw8_98 (Nat.le_of_ble_eq_true rfl) (Nat.le_of_ble_eq_true rfl) h (fun r8 M7 h => ?_)
        obtain ⟨hin, h⟩ := h
        refine x_iastore dX12_image_56 (ly12_1 hk_l0) hin 57 rfl (x_mem (fun M9 hM9 => ?_))
        have h := h M9 hM9
        refine x_iinc dX12_image_57 rfl (congrArg (l2 + ·) kc_1) (Nat.le_of_ble_eq_true rfl) [(0, .ref l0), (1, .int l1), (2, .int (l2 + 1))] rfl 60 rfl ?_
        refine x_goto dX12_image_60 35 rfl ?_
        exact hB35 _ _ h
  exact hB35 n l2 M h
def NX12_image_18 (Q : Bool → Mem → Prop) (l0 : Nat) (l1 : Int32) (M : Mem) : Prop :=
  (l1 = 0 ∨ l1 = 1) ∧ ∀ M10 : Mem, M10 = xu M l0 46 l1 → ∀ M11 : Mem, M11 = xu M10 l0 47 1 → ∀ M12 : Mem, M12 = xu M11 l0 48 0 → NX12_image_35 Q l0 l1 0 M12
theorem nX12_image_18 {Q : Bool → Mem → Prop} {l0 : Nat} {l1 : Int32} {M : Mem} (hk_l0 : SHk l0 = 12) (h : NX12_image_18 Q l0 l1 M) : xX RX12 cX12_image 3 (some .boolean) 3 18 [(0, .ref l0), (1, .int l1)] [] M (xQb Q) := by
  unfold NX12_image_18 at h
  refine x_aload_n dX12_image_18 rfl 19 rfl ?_
  refine x_iload_n dX12_image_19 rfl 20 rfl ?_
  obtain ⟨hz, h⟩ := h
  refine pf12_46 dX12_image_20 23 rfl hk_l0 kw5_205 hz (x_mem (fun M10 hM10 => ?_))
  have h := h M10 hM10
  refine x_aload_n dX12_image_23 rfl 24 rfl ?_
  refine x_iconst dX12_image_24 kc_1 25 rfl ?_
  refine pf12_47 dX12_image_25 28 rfl hk_l0 kw5_206 (Or.inr rfl) (x_mem (fun M11 hM11 => ?_))
  have h := h M11 hM11
  refine x_aload_n dX12_image_28 rfl 29 rfl ?_
  refine x_iconst dX12_image_29 kc_0 30 rfl ?_
  refine pf12_48 dX12_image_30 33 rfl hk_l0 kw5_207 (x_mem (fun M12 hM12 => ?_))
  have h := h M12 hM12
  refine x_iconst dX12_image_33 kc_0 34 rfl ?_
  refine x_istore_n dX12_image_34 (Nat.le_of_ble_eq_true rfl) [(0, .ref l0), (1, .int l1), (2, .int 0)] rfl 35 rfl ?_
  exact nX12_image_35 hk_l0 h
def FX12_image (Q : Bool → Mem → Prop) (l0 : Nat) (l1 : Int32) (M : Mem) : Prop :=
  ∀ M13 : Mem, M13 = xu M l0 0 0 → ((¬ l1 = 0 → NX12_image_18 Q l0 l1 M13) ∧ (l1 = 0 → ((¬ (M13 l0 47) = 0 → NX12_image_18 Q l0 l1 M13) ∧ ((M13 l0 47) = 0 → Q false M13))))
theorem eX12_image {Q : Bool → Mem → Prop} {l0 : Nat} {l1 : Int32} {M : Mem} (hk_l0 : SHk l0 = 12) (h : FX12_image Q l0 l1 M) : xX RX12 cX12_image 3 (some .boolean) 3 0 [(0, .ref l0), (1, .int l1)] [] M (xQb Q) := by
  unfold FX12_image at h
  refine x_aload_n dX12_image_0 rfl 1 rfl ?_
  refine x_iconst dX12_image_1 kc_0 2 rfl ?_
  refine pf12_0 dX12_image_2 5 rfl hk_l0 kw5_159 (x_mem (fun M13 hM13 => ?_))
  have h := h M13 hM13
  refine x_iload_n dX12_image_5 rfl 6 rfl ?_
  refine x_if_ne dX12_image_6 18 9 rfl rfl (fun hc => ?_) (fun hc => ?_)
  · have h := h.1 hc
    exact nX12_image_18 hk_l0 h
  · have h := h.2 hc
    refine x_aload_n dX12_image_9 rfl 10 rfl ?_
    refine gf12_47 dX12_image_10 13 rfl hk_l0 kw5_206 ?_
    refine x_if_ne dX12_image_13 18 16 rfl rfl (fun hc => ?_) (fun hc => ?_)
    · have h := h.1 hc
      exact nX12_image_18 hk_l0 h
    · have h := h.2 hc
      refine x_iconst dX12_image_16 kc_0 17 rfl ?_
      exact x_zret (z := false) dX12_image_17 h
theorem cX12_image_ {Q : Bool → Mem → Prop} {l0 : Nat} {l1 : Int32} {M : Mem} (hk_l0 : SHk l0 = 12) (h : FX12_image Q l0 l1 M) : xM yX12_image cX12_image 3 (some .boolean) 3 [.ref l0, .int l1] M (xQb Q) := xM_of (by decide +kernel) (Nat.le_of_ble_eq_true rfl) (eX12_image hk_l0 h)
theorem kX12_image {own : String} {cc : ByteArray} {nL : Nat} {rt : Option FieldType} {d pc ix : Nat} {L : List (Nat × Value)} {st : List Value} {M : Mem} {Rt : xGt → Array Value → State → Outcome → State → Prop} {Q : Bool → Mem → Prop} {l0 : Nat} {l1 : Int32} (hd : decode cc pc = .ok (.invokevirtual ix, 3)) (q : Nat) (hq : pc + 3 = q) (hk_l0 : SHk l0 = 12) (w1 : Cond.methodLink own ix yX12_image ∈ xTs) (hr : 3 < d) (hst : (st.map fun v => v.category).sum ≤ 8) (h : FX12_image Q l0 l1 M) (k : ∀ (r : Bool) (N : Mem), Q r N → xX own cc nL rt d q L (.int (bI r) :: st) N Rt) : xX own cc nL rt d pc L (.int l1 :: .ref l0 :: st) M Rt :=
  x_callV_b (n := 1) (As := [.int l1]) hd q hq hk_l0 (by decide) rfl rfl w1 kw8_95 kw8_96 kw1_14 kw8_97 (by decide +kernel) rfl hr (by decide) hst _ rfl (cX12_image_ hk_l0 h) k
def FX12_look (Q : Int32 → Mem → Prop) (l0 : Nat) (l1 : Int32) (M : Mem) : Prop :=
  ∀ M1 : Mem, M1 = xu M l0 0 0 → ((¬ l1 = 0 → ((¬ l1 = 1 → ((¬ l1 = 2 → ((¬ l1 = 3 → ((¬ l1 = 4 → ((¬ l1 = 5 → ((¬ l1 = 6 → ((¬ l1 = 7 → ((¬ l1 = 8 → ((¬ l1 = 9 → ((¬ l1 = 10 → ((¬ l1 = 11 → ((¬ l1 = 12 → ((¬ l1 = 13 → ((¬ l1 = 14 → ((¬ l1 = 15 → Q (-1) M1) ∧ (l1 = 15 → Q (M1 l0 3) M1))) ∧ (l1 = 14 → Q (M1 l0 41) M1))) ∧ (l1 = 13 → Q (M1 l0 37) M1))) ∧ (l1 = 12 → Q (M1 l0 35) M1))) ∧ (l1 = 11 → Q (M1 l0 33) M1))) ∧ (l1 = 10 → Q (M1 (l0 + 8) 0) M1))) ∧ (l1 = 9 → Q (M1 (l0 + 1) 1) M1))) ∧ (l1 = 8 → Q (M1 (l0 + 1) 2) M1))) ∧ (l1 = 7 → Q (M1 (l0 + 1) 6) M1))) ∧ (l1 = 6 → FX12_deadSet (fun (r2 : Int32) => Q r2 M1) l0 M1))) ∧ (l1 = 5 → Q (M1 (l0 + 1) 5) M1))) ∧ (l1 = 4 → Q (M1 (l0 + 1) 4) M1))) ∧ (l1 = 3 → Q (M1 (l0 + 1) 3) M1))) ∧ (l1 = 2 → Q (M1 (l0 + 1) 0) M1))) ∧ (l1 = 1 → Q (M1 l0 7) M1))) ∧ (l1 = 0 → Q (M1 l0 6) M1))
theorem eX12_look {Q : Int32 → Mem → Prop} {l0 : Nat} {l1 : Int32} {M : Mem} (hk_l0 : SHk l0 = 12) (h : FX12_look Q l0 l1 M) : xX RX12 cX12_look 2 (some .int) 2 0 [(0, .ref l0), (1, .int l1)] [] M (xQi Q) := by
  unfold FX12_look at h
  refine x_aload_n dX12_look_0 rfl 1 rfl ?_
  refine x_iconst dX12_look_1 kc_0 2 rfl ?_
  refine pf12_0 dX12_look_2 5 rfl hk_l0 kw5_159 (x_mem (fun M1 hM1 => ?_))
  have h := h M1 hM1
  refine x_iload_n dX12_look_5 rfl 6 rfl ?_
  refine x_if_ne dX12_look_6 14 9 rfl rfl (fun hc => ?_) (fun hc => ?_)
  · have h := h.1 hc
    refine x_iload_n dX12_look_14 rfl 15 rfl ?_
    refine x_iconst dX12_look_15 kc_1 16 rfl ?_
    refine x_icmp_ne dX12_look_16 24 19 rfl rfl (fun hc => ?_) (fun hc => ?_)
    · have h := h.1 hc
      refine x_iload_n dX12_look_24 rfl 25 rfl ?_
      refine x_iconst dX12_look_25 kc_2 26 rfl ?_
      refine x_icmp_ne dX12_look_26 36 29 rfl rfl (fun hc => ?_) (fun hc => ?_)
      · have h := h.1 hc
        refine x_iload_n dX12_look_36 rfl 37 rfl ?_
        refine x_iconst dX12_look_37 kc_3 38 rfl ?_
        refine x_icmp_ne dX12_look_38 48 41 rfl rfl (fun hc => ?_) (fun hc => ?_)
        · have h := h.1 hc
          refine x_iload_n dX12_look_48 rfl 49 rfl ?_
          refine x_iconst dX12_look_49 kc_4 50 rfl ?_
          refine x_icmp_ne dX12_look_50 60 53 rfl rfl (fun hc => ?_) (fun hc => ?_)
          · have h := h.1 hc
            refine x_iload_n dX12_look_60 rfl 61 rfl ?_
            refine x_iconst dX12_look_61 kc_5 62 rfl ?_
            refine x_icmp_ne dX12_look_62 72 65 rfl rfl (fun hc => ?_) (fun hc => ?_)
            · have h := h.1 hc
              refine x_iload_n dX12_look_72 rfl 73 rfl ?_
              refine x_bipush dX12_look_73 kb_6 75 rfl ?_
              refine x_icmp_ne dX12_look_75 83 78 rfl rfl (fun hc => ?_) (fun hc => ?_)
              · have h := h.1 hc
                refine x_iload_n dX12_look_83 rfl 84 rfl ?_
                refine x_bipush dX12_look_84 kb_7 86 rfl ?_
                refine x_icmp_ne dX12_look_86 97 89 rfl rfl (fun hc => ?_) (fun hc => ?_)
                · have h := h.1 hc
                  refine x_iload_n dX12_look_97 rfl 98 rfl ?_
                  refine x_bipush dX12_look_98 kb_8 100 rfl ?_
                  refine x_icmp_ne dX12_look_100 110 103 rfl rfl (fun hc => ?_) (fun hc => ?_)
                  · have h := h.1 hc
                    refine x_iload_n dX12_look_110 rfl 111 rfl ?_
                    refine x_bipush dX12_look_111 kb_9 113 rfl ?_
                    refine x_icmp_ne dX12_look_113 123 116 rfl rfl (fun hc => ?_) (fun hc => ?_)
                    · have h := h.1 hc
                      refine x_iload_n dX12_look_123 rfl 124 rfl ?_
                      refine x_bipush dX12_look_124 kb_10 126 rfl ?_
                      refine x_icmp_ne dX12_look_126 136 129 rfl rfl (fun hc => ?_) (fun hc => ?_)
                      · have h := h.1 hc
                        refine x_iload_n dX12_look_136 rfl 137 rfl ?_
                        refine x_bipush dX12_look_137 kb_11 139 rfl ?_
                        refine x_icmp_ne dX12_look_139 147 142 rfl rfl (fun hc => ?_) (fun hc => ?_)
                        · have h := h.1 hc
                          refine x_iload_n dX12_look_147 rfl 148 rfl ?_
                          refine x_bipush dX12_look_148 kb_12 150 rfl ?_
                          refine x_icmp_ne dX12_look_150 158 153 rfl rfl (fun hc => ?_) (fun hc => ?_)
                          · have h := h.1 hc
                            refine x_iload_n dX12_look_158 rfl 159 rfl ?_
                            refine x_bipush dX12_look_159 kb_13 161 rfl ?_
                            refine x_icmp_ne dX12_look_161 169 164 rfl rfl (fun hc => ?_) (fun hc => ?_)
                            · have h := h.1 hc
                              refine x_iload_n dX12_look_169 rfl 170 rfl ?_
                              refine x_bipush dX12_look_170 kb_14 172 rfl ?_
                              refine x_icmp_ne dX12_look_172 180 175 rfl rfl (fun hc => ?_) (fun hc => ?_)
                              · have h := h.1 hc
                                refine x_iload_n dX12_look_180 rfl 181 rfl ?_
                                refine x_bipush dX12_look_181 kb_15 183 rfl ?_
                                refine x_icmp_ne dX12_look_183 193 186 rfl rfl (fun hc => ?_) (fun hc => ?_)
                                · have h := h.1 hc
                                  refine x_iconst dX12_look_193 kc_m1 194 rfl ?_
                                  exact x_iret dX12_look_194 h
                                · have h := h.2 hc
                                  refine x_aload_n dX12_look_186 rfl 187 rfl ?_
                                  refine gf12_3 dX12_look_187 190 rfl hk_l0 kw5_162 ?_
                                  refine x_goto dX12_look_190 194 rfl ?_
                                  exact x_iret dX12_look_194 h
                              · have h := h.2 hc
                                refine x_aload_n dX12_look_175 rfl 176 rfl ?_
                                refine gf12_41 dX12_look_176 179 rfl hk_l0 kw5_200 ?_
                                exact x_iret dX12_look_179 h
                            · have h := h.2 hc
                              refine x_aload_n dX12_look_164 rfl 165 rfl ?_
                              refine gf12_37 dX12_look_165 168 rfl hk_l0 kw5_196 ?_
                              exact x_iret dX12_look_168 h
                          · have h := h.2 hc
                            refine x_aload_n dX12_look_153 rfl 154 rfl ?_
                            refine gf12_35 dX12_look_154 157 rfl hk_l0 kw5_194 ?_
                            exact x_iret dX12_look_157 h
                        · have h := h.2 hc
                          refine x_aload_n dX12_look_142 rfl 143 rfl ?_
                          refine gf12_33 dX12_look_143 146 rfl hk_l0 kw5_192 ?_
                          exact x_iret dX12_look_146 h
                      · have h := h.2 hc
                        refine x_aload_n dX12_look_129 rfl 130 rfl ?_
                        refine gf12_17 dX12_look_130 133 rfl hk_l0 kw5_176 ?_
                        refine x_iconst dX12_look_133 kc_0 134 rfl ?_
                        refine x_iaload dX12_look_134 (ly12_17 hk_l0) (by unfold vp_in; decide) 135 rfl ?_
                        exact x_iret dX12_look_135 h
                    · have h := h.2 hc
                      refine x_aload_n dX12_look_116 rfl 117 rfl ?_
                      refine gf12_1 dX12_look_117 120 rfl hk_l0 kw5_160 ?_
                      refine x_iconst dX12_look_120 kc_1 121 rfl ?_
                      refine x_iaload dX12_look_121 (ly12_1 hk_l0) (by unfold vp_in; decide) 122 rfl ?_
                      exact x_iret dX12_look_122 h
                  · have h := h.2 hc
                    refine x_aload_n dX12_look_103 rfl 104 rfl ?_
                    refine gf12_1 dX12_look_104 107 rfl hk_l0 kw5_160 ?_
                    refine x_iconst dX12_look_107 kc_2 108 rfl ?_
                    refine x_iaload dX12_look_108 (ly12_1 hk_l0) (by unfold vp_in; decide) 109 rfl ?_
                    exact x_iret dX12_look_109 h
                · have h := h.2 hc
                  refine x_aload_n dX12_look_89 rfl 90 rfl ?_
                  refine gf12_1 dX12_look_90 93 rfl hk_l0 kw5_160 ?_
                  refine x_bipush dX12_look_93 kb_6 95 rfl ?_
                  refine x_iaload dX12_look_95 (ly12_1 hk_l0) (by unfold vp_in; decide) 96 rfl ?_
                  exact x_iret dX12_look_96 h
              · have h := h.2 hc
                refine x_aload_n dX12_look_78 rfl 79 rfl ?_
                refine kX12_deadSet dX12_look_79 82 rfl hk_l0 kw7_196 (Nat.le_of_ble_eq_true rfl) (Nat.le_of_ble_eq_true rfl) h (fun r2 h => ?_)
                exact x_iret dX12_look_82 h
            · have h := h.2 hc
              refine x_aload_n dX12_look_65 rfl 66 rfl ?_
              refine gf12_1 dX12_look_66 69 rfl hk_l0 kw5_160 ?_
              refine x_iconst dX12_look_69 kc_5 70 rfl ?_
              refine x_iaload dX12_look_70 (ly12_1 hk_l0) (by unfold vp_in; decide) 71 rfl ?_
              exact x_iret dX12_look_71 h
          · have h := h.2 hc
            refine x_aload_n dX12_look_53 rfl 54 rfl ?_
            refine gf12_1 dX12_look_54 57 rfl hk_l0 kw5_160 ?_
            refine x_iconst dX12_look_57 kc_4 58 rfl ?_
            refine x_iaload dX12_look_58 (ly12_1 hk_l0) (by unfold vp_in; decide) 59 rfl ?_
            exact x_iret dX12_look_59 h
        · have h := h.2 hc
          refine x_aload_n dX12_look_41 rfl 42 rfl ?_
          refine gf12_1 dX12_look_42 45 rfl hk_l0 kw5_160 ?_
          refine x_iconst dX12_look_45 kc_3 46 rfl ?_
          refine x_iaload dX12_look_46 (ly12_1 hk_l0) (by unfold vp_in; decide) 47 rfl ?_
          exact x_iret dX12_look_47 h
      · have h := h.2 hc
        refine x_aload_n dX12_look_29 rfl 30 rfl ?_
        refine gf12_1 dX12_look_30 33 rfl hk_l0 kw5_160 ?_
        refine x_iconst dX12_look_33 kc_0 34 rfl ?_
        refine x_iaload dX12_look_34 (ly12_1 hk_l0) (by unfold vp_in; decide) 35 rfl ?_
        exact x_iret dX12_look_35 h
    · have h := h.2 hc
      refine x_aload_n dX12_look_19 rfl 20 rfl ?_
      refine gf12_7 dX12_look_20 23 rfl hk_l0 kw5_166 ?_
      exact x_iret dX12_look_23 h
  · have h := h.2 hc
    refine x_aload_n dX12_look_9 rfl 10 rfl ?_
    refine gf12_6 dX12_look_10 13 rfl hk_l0 kw5_165 ?_
    exact x_iret dX12_look_13 h
theorem cX12_look_ {Q : Int32 → Mem → Prop} {l0 : Nat} {l1 : Int32} {M : Mem} (hk_l0 : SHk l0 = 12) (h : FX12_look Q l0 l1 M) : xM yX12_look cX12_look 2 (some .int) 2 [.ref l0, .int l1] M (xQi Q) := xM_of (by decide +kernel) (Nat.le_of_ble_eq_true rfl) (eX12_look hk_l0 h)
theorem kX12_look {own : String} {cc : ByteArray} {nL : Nat} {rt : Option FieldType} {d pc ix : Nat} {L : List (Nat × Value)} {st : List Value} {M : Mem} {Rt : xGt → Array Value → State → Outcome → State → Prop} {Q : Int32 → Mem → Prop} {l0 : Nat} {l1 : Int32} (hd : decode cc pc = .ok (.invokevirtual ix, 3)) (q : Nat) (hq : pc + 3 = q) (hk_l0 : SHk l0 = 12) (w1 : Cond.methodLink own ix yX12_look ∈ xTs) (hr : 2 < d) (hst : (st.map fun v => v.category).sum ≤ 8) (h : FX12_look Q l0 l1 M) (k : ∀ (r : Int32) (N : Mem), Q r N → xX own cc nL rt d q L (.int r :: st) N Rt) : xX own cc nL rt d pc L (.int l1 :: .ref l0 :: st) M Rt :=
  x_callV_i (n := 1) (As := [.int l1]) hd q hq hk_l0 (by decide) rfl rfl w1 kw8_111 kw8_112 kw1_14 kw8_113 (by decide +kernel) rfl hr (by decide) hst _ rfl (cX12_look_ hk_l0 h) k
