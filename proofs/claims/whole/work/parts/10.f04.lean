def lbX7_idle_4 (Q : Int32 → Prop) (l0 : Nat) (M : Mem) (B4 : Int32 → Int32 → Prop) (l1 : Int32) (l2 : Int32) : Prop :=
  (((M l0 2) ≤ l2 → Q l1) ∧ (¬ (M l0 2) ≤ l2 → vp_in l2 16 ∧ FX7_closure (fun (r1 : Int32) => vp_in l2 16 ∧ (((r1 &&& (M (l0 + 2) (ix l2))) = 0 → B4 l1 (l2 + 1)) ∧ (¬ (r1 &&& (M (l0 + 2) (ix l2))) = 0 → B4 (l1 + 1) (l2 + 1)))) l0 (M (l0 + 1) (ix l2)) l2 M))
def NX7_idle_4 (Q : Int32 → Prop) (l0 : Nat) (l1 : Int32) (l2 : Int32) (M : Mem) : Prop := xlp (fun (B : Int32 × Int32 → Prop) a => lbX7_idle_4 Q l0 M (fun l1 l2 => B (l1, l2)) a.1 a.2) (l1, l2)
theorem nX7_idle_4 {Q : Int32 → Prop} {l0 : Nat} {l1 : Int32} {l2 : Int32} {M : Mem} (hk_l0 : SHk l0 = 7) (h : NX7_idle_4 Q l0 l1 l2 M) : xX RX7 cX7_idle 3 (some .int) 2 4 [(0, .ref l0), (1, .int l1), (2, .int l2)] [] M (xQi (xP M Q)) := by
  obtain ⟨n, h⟩ := h
  have hB4 : ∀ (n : Nat) (l1 : Int32) (l2 : Int32), xlpn (fun (B : Int32 × Int32 → Prop) a => lbX7_idle_4 Q l0 M (fun l1 l2 => B (l1, l2)) a.1 a.2) n (l1, l2) → xX RX7 cX7_idle 3 (some .int) 2 4 [(0, .ref l0), (1, .int l1), (2, .int l2)] [] M (xQi (xP M Q)) := by
    intro n
    induction n with
    | zero => intro l1 l2 h; exact False.elim h
    | succ n ih =>
      intro l1 l2 h
      have hB4 := ih
      have h : lbX7_idle_4 Q l0 M (fun l1 l2 => xlpn (fun (B : Int32 × Int32 → Prop) a => lbX7_idle_4 Q l0 M (fun l1 l2 => B (l1, l2)) a.1 a.2) n (l1, l2)) l1 l2 := h
      unfold lbX7_idle_4 at h
      refine x_iload_n dX7_idle_4 rfl 5 rfl ?_
      refine x_aload_n dX7_idle_5 rfl 6 rfl ?_
      refine gf7_2 dX7_idle_6 9 rfl hk_l0 kw1_219 ?_
      refine x_icmp_ge dX7_idle_9 42 12 rfl rfl (fun hc => ?_) (fun hc => ?_)
      · have h := h.1 hc
        refine x_iload_n dX7_idle_42 rfl 43 rfl ?_
        exact x_iret dX7_idle_43 ⟨rfl, h⟩
      · have h := h.2 hc
        refine x_aload_n dX7_idle_12 rfl 13 rfl ?_
        refine x_aload_n dX7_idle_13 rfl 14 rfl ?_
        refine gf7_0 dX7_idle_14 17 rfl hk_l0 kw1_217 ?_
        refine x_iload_n dX7_idle_17 rfl 18 rfl ?_
        obtain ⟨hin, h⟩ := h
        refine x_iaload dX7_idle_18 (ly7_0 hk_l0) hin 19 rfl ?_
        refine x_iload_n dX7_idle_19 rfl 20 rfl ?_
        refine kX7_closure dX7_idle_20 23 rfl hk_l0 kw5_20 (Nat.le_of_ble_eq_true rfl) (Nat.le_of_ble_eq_true rfl) h (fun r1 h => ?_)
        refine x_aload_n dX7_idle_23 rfl 24 rfl ?_
        refine gf7_1 dX7_idle_24 27 rfl hk_l0 kw1_218 ?_
        refine x_iload_n dX7_idle_27 rfl 28 rfl ?_
        obtain ⟨hin, h⟩ := h
        refine x_iaload dX7_idle_28 (ly7_1 hk_l0) hin 29 rfl ?_
        refine x_iand dX7_idle_29 30 rfl ?_
        refine x_if_eq dX7_idle_30 36 33 rfl rfl (fun hc => ?_) (fun hc => ?_)
        · have h := h.1 hc
          refine x_iinc dX7_idle_36 rfl (congrArg (l2 + ·) kc_1) (Nat.le_of_ble_eq_true rfl) [(0, .ref l0), (1, .int l1), (2, .int (l2 + 1))] rfl 39 rfl ?_
          refine x_goto dX7_idle_39 4 rfl ?_
          exact hB4 _ _ h
        · have h := h.2 hc
          refine x_iinc dX7_idle_33 rfl (congrArg (l1 + ·) kc_1) (Nat.le_of_ble_eq_true rfl) [(0, .ref l0), (1, .int (l1 + 1)), (2, .int l2)] rfl 36 rfl ?_
          refine x_iinc dX7_idle_36 rfl (congrArg (l2 + ·) kc_1) (Nat.le_of_ble_eq_true rfl) [(0, .ref l0), (1, .int (l1 + 1)), (2, .int (l2 + 1))] rfl 39 rfl ?_
          refine x_goto dX7_idle_39 4 rfl ?_
          exact hB4 _ _ h
  exact hB4 n l1 l2 h
def FX7_idle (Q : Int32 → Prop) (l0 : Nat) (M : Mem) : Prop :=
  NX7_idle_4 Q l0 0 0 M
theorem eX7_idle {Q : Int32 → Prop} {l0 : Nat} {M : Mem} (hk_l0 : SHk l0 = 7) (h : FX7_idle Q l0 M) : xX RX7 cX7_idle 3 (some .int) 2 0 [(0, .ref l0)] [] M (xQi (xP M Q)) := by
  unfold FX7_idle at h
  refine x_iconst dX7_idle_0 kc_0 1 rfl ?_
  refine x_istore_n dX7_idle_1 (Nat.le_of_ble_eq_true rfl) [(0, .ref l0), (1, .int 0)] rfl 2 rfl ?_
  refine x_iconst dX7_idle_2 kc_0 3 rfl ?_
  refine x_istore_n dX7_idle_3 (Nat.le_of_ble_eq_true rfl) [(0, .ref l0), (1, .int 0), (2, .int 0)] rfl 4 rfl ?_
  exact nX7_idle_4 hk_l0 h
theorem cX7_idle_ {Q : Int32 → Prop} {l0 : Nat} {M : Mem} (hk_l0 : SHk l0 = 7) (h : FX7_idle Q l0 M) : xM yX7_idle cX7_idle 3 (some .int) 2 [.ref l0] M (xQi (xP M Q)) := xM_of (by decide +kernel) (Nat.le_of_ble_eq_true rfl) (eX7_idle hk_l0 h)
theorem kX7_idle {own : String} {cc : ByteArray} {nL : Nat} {rt : Option FieldType} {d pc ix : Nat} {L : List (Nat × Value)} {st : List Value} {M : Mem} {Rt : xGt → Array Value → State → Outcome → State → Prop} {Q : Int32 → Prop} {l0 : Nat} (hd : decode cc pc = .ok (.invokevirtual ix, 3)) (q : Nat) (hq : pc + 3 = q) (hk_l0 : SHk l0 = 7) (w1 : Cond.methodLink own ix yX7_idle ∈ xTs) (hr : 2 < d) (hst : (st.map fun v => v.category).sum ≤ 8) (h : FX7_idle Q l0 M) (k : ∀ (r : Int32), Q r → xX own cc nL rt d q L (.int r :: st) M Rt) : xX own cc nL rt d pc L (.ref l0 :: st) M Rt :=
  x_callV_i (n := 0) (As := []) hd q hq hk_l0 (by decide) rfl rfl w1 kw5_17 kw5_18 kw1_8 kw5_19 (by decide +kernel) rfl hr (by decide) hst _ rfl (cX7_idle_ hk_l0 h) (fun r N hN => by obtain ⟨rfl, hN⟩ := hN; exact k r hN)
def FJ6_bitCount_0f7a4 (Q : Int32 → Prop) (l0 : Int32) (M : Mem) : Prop :=
  ∀ y1 : Int32, y1 = l0 - (((l0.toUInt32 >>> ((1 : Int32).toUInt32 &&& Int32.toUInt32 31)).toInt32) &&& 1431655765) → ∀ y2 : Int32, y2 = (y1 &&& 858993459) + (((y1.toUInt32 >>> ((2 : Int32).toUInt32 &&& Int32.toUInt32 31)).toInt32) &&& 858993459) → ∀ y3 : Int32, y3 = (y2 + ((y2.toUInt32 >>> ((4 : Int32).toUInt32 &&& Int32.toUInt32 31)).toInt32)) &&& 252645135 → ∀ y4 : Int32, y4 = y3 + ((y3.toUInt32 >>> ((8 : Int32).toUInt32 &&& Int32.toUInt32 31)).toInt32) → ∀ y5 : Int32, y5 = y4 + ((y4.toUInt32 >>> ((16 : Int32).toUInt32 &&& Int32.toUInt32 31)).toInt32) → Q (y5 &&& 63)
theorem eJ6_bitCount_0f7a4 {Q : Int32 → Prop} {l0 : Int32} {M : Mem} (h : FJ6_bitCount_0f7a4 Q l0 M) : xX RJ6 cJ6_bitCount_0f7a4 1 (some .int) 1 0 [(0, .int l0)] [] M (xQi (xP M Q)) := by
  unfold FJ6_bitCount_0f7a4 at h
  refine x_iload_n dJ6_bitCount_0f7a4_0 rfl 1 rfl ?_
  refine x_iload_n dJ6_bitCount_0f7a4_1 rfl 2 rfl ?_
  refine x_iconst dJ6_bitCount_0f7a4_2 kc_1 3 rfl ?_
  refine x_iushr dJ6_bitCount_0f7a4_3 4 rfl ?_
  refine x_ldcw dJ6_bitCount_0f7a4_4 kw4_192 7 rfl ?_
  refine x_iand dJ6_bitCount_0f7a4_7 8 rfl ?_
  refine x_isub dJ6_bitCount_0f7a4_8 9 rfl ?_
  refine x_top (fun y1 hy1 => ?_)
  have h := h y1 hy1
  refine x_istore_n dJ6_bitCount_0f7a4_9 (Nat.le_of_ble_eq_true rfl) [(0, .int y1)] rfl 10 rfl ?_
  refine x_iload_n dJ6_bitCount_0f7a4_10 rfl 11 rfl ?_
  refine x_ldcw dJ6_bitCount_0f7a4_11 kw4_193 14 rfl ?_
  refine x_iand dJ6_bitCount_0f7a4_14 15 rfl ?_
  refine x_iload_n dJ6_bitCount_0f7a4_15 rfl 16 rfl ?_
  refine x_iconst dJ6_bitCount_0f7a4_16 kc_2 17 rfl ?_
  refine x_iushr dJ6_bitCount_0f7a4_17 18 rfl ?_
  refine x_ldcw dJ6_bitCount_0f7a4_18 kw4_193 21 rfl ?_
  refine x_iand dJ6_bitCount_0f7a4_21 22 rfl ?_
  refine x_iadd dJ6_bitCount_0f7a4_22 23 rfl ?_
  refine x_top (fun y2 hy2 => ?_)
  have h := h y2 hy2
  refine x_istore_n dJ6_bitCount_0f7a4_23 (Nat.le_of_ble_eq_true rfl) [(0, .int y2)] rfl 24 rfl ?_
  refine x_iload_n dJ6_bitCount_0f7a4_24 rfl 25 rfl ?_
  refine x_iload_n dJ6_bitCount_0f7a4_25 rfl 26 rfl ?_
  refine x_iconst dJ6_bitCount_0f7a4_26 kc_4 27 rfl ?_
  refine x_iushr dJ6_bitCount_0f7a4_27 28 rfl ?_
  refine x_iadd dJ6_bitCount_0f7a4_28 29 rfl ?_
  refine x_ldcw dJ6_bitCount_0f7a4_29 kw4_194 32 rfl ?_
  refine x_iand dJ6_bitCount_0f7a4_32 33 rfl ?_
  refine x_top (fun y3 hy3 => ?_)
  have h := h y3 hy3
  refine x_istore_n dJ6_bitCount_0f7a4_33 (Nat.le_of_ble_eq_true rfl) [(0, .int y3)] rfl 34 rfl ?_
  refine x_iload_n dJ6_bitCount_0f7a4_34 rfl 35 rfl ?_
  refine x_iload_n dJ6_bitCount_0f7a4_35 rfl 36 rfl ?_
  refine x_bipush dJ6_bitCount_0f7a4_36 kb_8 38 rfl ?_
  refine x_iushr dJ6_bitCount_0f7a4_38 39 rfl ?_
  refine x_iadd dJ6_bitCount_0f7a4_39 40 rfl ?_
  refine x_top (fun y4 hy4 => ?_)
  have h := h y4 hy4
  refine x_istore_n dJ6_bitCount_0f7a4_40 (Nat.le_of_ble_eq_true rfl) [(0, .int y4)] rfl 41 rfl ?_
  refine x_iload_n dJ6_bitCount_0f7a4_41 rfl 42 rfl ?_
  refine x_iload_n dJ6_bitCount_0f7a4_42 rfl 43 rfl ?_
  refine x_bipush dJ6_bitCount_0f7a4_43 kb_16 45 rfl ?_
  refine x_iushr dJ6_bitCount_0f7a4_45 46 rfl ?_
  refine x_iadd dJ6_bitCount_0f7a4_46 47 rfl ?_
  refine x_top (fun y5 hy5 => ?_)
  have h := h y5 hy5
  refine x_istore_n dJ6_bitCount_0f7a4_47 (Nat.le_of_ble_eq_true rfl) [(0, .int y5)] rfl 48 rfl ?_
  refine x_iload_n dJ6_bitCount_0f7a4_48 rfl 49 rfl ?_
  refine x_bipush dJ6_bitCount_0f7a4_49 kb_63 51 rfl ?_
  refine x_iand dJ6_bitCount_0f7a4_51 52 rfl ?_
  exact x_iret dJ6_bitCount_0f7a4_52 ⟨rfl, h⟩
theorem cJ6_bitCount_0f7a4_ {Q : Int32 → Prop} {l0 : Int32} {M : Mem} (h : FJ6_bitCount_0f7a4 Q l0 M) : xM yJ6_bitCount_0f7a4 cJ6_bitCount_0f7a4 1 (some .int) 1 [.int l0] M (xQi (xP M Q)) := xM_ofF (by decide +kernel) (Nat.le_of_ble_eq_true rfl) (eJ6_bitCount_0f7a4 h)
theorem kJ6_bitCount_0f7a4 {own : String} {cc : ByteArray} {nL : Nat} {rt : Option FieldType} {d pc ix : Nat} {L : List (Nat × Value)} {st : List Value} {M : Mem} {Rt : xGt → Array Value → State → Outcome → State → Prop} {Q : Int32 → Prop} {l0 : Int32} (hd : decode cc pc = .ok (.invokestatic ix, 3)) (q : Nat) (hq : pc + 3 = q) (w1 : Cond.methodLink own ix yJ6_bitCount_0f7a4 ∈ xTs) (hr : 1 < d) (hst : (st.map fun v => v.category).sum ≤ 8) (h : FJ6_bitCount_0f7a4 Q l0 M) (k : ∀ (r : Int32), Q r → xX own cc nL rt d q L (.int r :: st) M Rt) : xX own cc nL rt d pc L (.int l0 :: st) M Rt :=
  x_callS_i (n := 1) (As := [.int l0]) hd q hq w1 kw4_190 kw1_21 kw4_191 (by decide +kernel) rfl hr (by decide) hst _ rfl (cJ6_bitCount_0f7a4_ h) (fun r N hN => by obtain ⟨rfl, hN⟩ := hN; exact k r hN)
def lbX7_leadingTo_24 (Q : Int32 → Prop) (B7 : Int32 → Int32 → Int32 → Prop) (l0 : Nat) (l4 : Int32) (l5 : Int32) (M : Mem) (B24 : Int32 → Int32 → Prop) (l2 : Int32) (l6 : Int32) : Prop :=
  (((M l0 2) ≤ l6 → ((l2 = l5 → B7 l2 0 (l4 + 1)) ∧ (¬ l2 = l5 → B7 l2 1 (l4 + 1)))) ∧ (¬ (M l0 2) ≤ l6 → vp_in l6 16 ∧ ((((M (l0 + 2) (ix l6)) &&& l2) = 0 → B24 l2 (l6 + 1)) ∧ (¬ ((M (l0 + 2) (ix l6)) &&& l2) = 0 → vp_in l6 16 ∧ ∀ y1 : Int32, y1 = l2 ||| (M (l0 + 1) (ix l6)) → B24 y1 (l6 + 1)))))
def NX7_leadingTo_24 (Q : Int32 → Prop) (B7 : Int32 → Int32 → Int32 → Prop) (l0 : Nat) (l2 : Int32) (l4 : Int32) (l5 : Int32) (l6 : Int32) (M : Mem) : Prop := xlp (fun (B : Int32 × Int32 → Prop) a => lbX7_leadingTo_24 Q B7 l0 l4 l5 M (fun l2 l6 => B (l2, l6)) a.1 a.2) (l2, l6)
theorem nX7_leadingTo_24 {Q : Int32 → Prop} {B7 : Int32 → Int32 → Int32 → Prop} {l0 : Nat} {l2 : Int32} {l4 : Int32} {l5 : Int32} {l6 : Int32} {M : Mem} (hB7 : ∀ (l2 : Int32) (l3 : Int32) (l4 : Int32), B7 l2 l3 l4 → xX RX7 cX7_leadingTo 7 (some .int) 1 7 [(0, .ref l0), (2, .int l2), (3, .int l3), (4, .int l4)] [] M (xQi (xP M Q))) (hk_l0 : SHk l0 = 7) (h : NX7_leadingTo_24 Q B7 l0 l2 l4 l5 l6 M) : xX RX7 cX7_leadingTo 7 (some .int) 1 24 [(0, .ref l0), (2, .int l2), (4, .int l4), (5, .int l5), (6, .int l6)] [] M (xQi (xP M Q)) := by
  obtain ⟨n, h⟩ := h
  have hB24 : ∀ (n : Nat) (l2 : Int32) (l6 : Int32), xlpn (fun (B : Int32 × Int32 → Prop) a => lbX7_leadingTo_24 Q B7 l0 l4 l5 M (fun l2 l6 => B (l2, l6)) a.1 a.2) n (l2, l6) → xX RX7 cX7_leadingTo 7 (some .int) 1 24 [(0, .ref l0), (2, .int l2), (4, .int l4), (5, .int l5), (6, .int l6)] [] M (xQi (xP M Q)) := by
    intro n
    induction n with
    | zero => intro l2 l6 h; exact False.elim h
    | succ n ih =>
      intro l2 l6 h
      have hB24 := ih
      have h : lbX7_leadingTo_24 Q B7 l0 l4 l5 M (fun l2 l6 => xlpn (fun (B : Int32 × Int32 → Prop) a => lbX7_leadingTo_24 Q B7 l0 l4 l5 M (fun l2 l6 => B (l2, l6)) a.1 a.2) n (l2, l6)) l2 l6 := h
      unfold lbX7_leadingTo_24 at h
      refine x_iload dX7_leadingTo_24 rfl 26 rfl ?_
      refine x_aload_n dX7_leadingTo_26 rfl 27 rfl ?_
      refine gf7_2 dX7_leadingTo_27 30 rfl hk_l0 kw1_219 ?_
      refine x_icmp_ge dX7_leadingTo_30 61 33 rfl rfl (fun hc => ?_) (fun hc => ?_)
      · have h := h.1 hc
        refine x_iload_n dX7_leadingTo_61 rfl 62 rfl ?_
        refine x_iload dX7_leadingTo_62 rfl 64 rfl ?_
        refine x_icmp_eq dX7_leadingTo_64 71 67 rfl rfl (fun hc => ?_) (fun hc => ?_)
        · have h := h.1 hc
          refine x_iconst dX7_leadingTo_71 kc_0 72 rfl ?_
          refine x_istore_n dX7_leadingTo_72 (Nat.le_of_ble_eq_true rfl) [(0, .ref l0), (2, .int l2), (3, .int 0), (4, .int l4), (5, .int l5), (6, .int l6)] rfl 73 rfl ?_
          refine x_iinc dX7_leadingTo_73 rfl (congrArg (l4 + ·) kc_1) (Nat.le_of_ble_eq_true rfl) [(0, .ref l0), (2, .int l2), (3, .int 0), (4, .int (l4 + 1)), (5, .int l5), (6, .int l6)] rfl 76 rfl ?_
          refine x_goto dX7_leadingTo_76 7 rfl ?_
          refine x_weak [(0, .ref l0), (2, .int l2), (3, .int 0), (4, .int (l4 + 1))] [0, 1, 2, 3] rfl ?_
          exact hB7 _ _ _ h
        · have h := h.2 hc
          refine x_iconst dX7_leadingTo_67 kc_1 68 rfl ?_
          refine x_goto dX7_leadingTo_68 72 rfl ?_
          refine x_istore_n dX7_leadingTo_72 (Nat.le_of_ble_eq_true rfl) [(0, .ref l0), (2, .int l2), (3, .int 1), (4, .int l4), (5, .int l5), (6, .int l6)] rfl 73 rfl ?_
          refine x_iinc dX7_leadingTo_73 rfl (congrArg (l4 + ·) kc_1) (Nat.le_of_ble_eq_true rfl) [(0, .ref l0), (2, .int l2), (3, .int 1), (4, .int (l4 + 1)), (5, .int l5), (6, .int l6)] rfl 76 rfl ?_
          refine x_goto dX7_leadingTo_76 7 rfl ?_
          refine x_weak [(0, .ref l0), (2, .int l2), (3, .int 1), (4, .int (l4 + 1))] [0, 1, 2, 3] rfl ?_
          exact hB7 _ _ _ h
      · have h := h.2 hc
        refine x_aload_n dX7_leadingTo_33 rfl 34 rfl ?_
        refine gf7_1 dX7_leadingTo_34 37 rfl hk_l0 kw1_218 ?_
        refine x_iload dX7_leadingTo_37 rfl 39 rfl ?_
        obtain ⟨hin, h⟩ := h
        refine x_iaload dX7_leadingTo_39 (ly7_1 hk_l0) hin 40 rfl ?_
        refine x_iload_n dX7_leadingTo_40 rfl 41 rfl ?_
        refine x_iand dX7_leadingTo_41 42 rfl ?_
        refine x_if_eq dX7_leadingTo_42 55 45 rfl rfl (fun hc => ?_) (fun hc => ?_)
        · have h := h.1 hc
          refine x_iinc dX7_leadingTo_55 rfl (congrArg (l6 + ·) kc_1) (Nat.le_of_ble_eq_true rfl) [(0, .ref l0), (2, .int l2), (4, .int l4), (5, .int l5), (6, .int (l6 + 1))] rfl 58 rfl ?_
          refine x_goto dX7_leadingTo_58 24 rfl ?_
          exact hB24 _ _ h
        · have h := h.2 hc
          refine x_iload_n dX7_leadingTo_45 rfl 46 rfl ?_
          refine x_aload_n dX7_leadingTo_46 rfl 47 rfl ?_
          refine gf7_0 dX7_leadingTo_47 50 rfl hk_l0 kw1_217 ?_
          refine x_iload dX7_leadingTo_50 rfl 52 rfl ?_
          obtain ⟨hin, h⟩ := h
          refine x_iaload dX7_leadingTo_52 (ly7_0 hk_l0) hin 53 rfl ?_
          refine x_ior dX7_leadingTo_53 54 rfl ?_
          refine x_top (fun y1 hy1 => ?_)
          have h := h y1 hy1
          refine x_istore_n dX7_leadingTo_54 (Nat.le_of_ble_eq_true rfl) [(0, .ref l0), (2, .int y1), (4, .int l4), (5, .int l5), (6, .int l6)] rfl 55 rfl ?_
          refine x_iinc dX7_leadingTo_55 rfl (congrArg (l6 + ·) kc_1) (Nat.le_of_ble_eq_true rfl) [(0, .ref l0), (2, .int y1), (4, .int l4), (5, .int l5), (6, .int (l6 + 1))] rfl 58 rfl ?_
          refine x_goto dX7_leadingTo_58 24 rfl ?_
          exact hB24 _ _ h
  exact hB24 n l2 l6 h
def lbX7_leadingTo_7 (Q : Int32 → Prop) (l0 : Nat) (M : Mem) (B7 : Int32 → Int32 → Int32 → Prop) (l2 : Int32) (l3 : Int32) (l4 : Int32) : Prop :=
  ((16 < l4 → Q l2) ∧ (¬ 16 < l4 → ((l3 = 0 → Q l2) ∧ (¬ l3 = 0 → NX7_leadingTo_24 Q B7 l0 l2 l4 l2 0 M))))
def NX7_leadingTo_7 (Q : Int32 → Prop) (l0 : Nat) (l2 : Int32) (l3 : Int32) (l4 : Int32) (M : Mem) : Prop := xlp (fun (B : Int32 × Int32 × Int32 → Prop) a => lbX7_leadingTo_7 Q l0 M (fun l2 l3 l4 => B (l2, l3, l4)) a.1 a.2.1 a.2.2) (l2, l3, l4)
theorem nX7_leadingTo_7 {Q : Int32 → Prop} {l0 : Nat} {l2 : Int32} {l3 : Int32} {l4 : Int32} {M : Mem} (hk_l0 : SHk l0 = 7) (h : NX7_leadingTo_7 Q l0 l2 l3 l4 M) : xX RX7 cX7_leadingTo 7 (some .int) 1 7 [(0, .ref l0), (2, .int l2), (3, .int l3), (4, .int l4)] [] M (xQi (xP M Q)) := by
  obtain ⟨n, h⟩ := h
  have hB7 : ∀ (n : Nat) (l2 : Int32) (l3 : Int32) (l4 : Int32), xlpn (fun (B : Int32 × Int32 × Int32 → Prop) a => lbX7_leadingTo_7 Q l0 M (fun l2 l3 l4 => B (l2, l3, l4)) a.1 a.2.1 a.2.2) n (l2, l3, l4) → xX RX7 cX7_leadingTo 7 (some .int) 1 7 [(0, .ref l0), (2, .int l2), (3, .int l3), (4, .int l4)] [] M (xQi (xP M Q)) := by
    intro n
    induction n with
    | zero => intro l2 l3 l4 h; exact False.elim h
    | succ n ih =>
      intro l2 l3 l4 h
      have hB7 := ih
      have h : lbX7_leadingTo_7 Q l0 M (fun l2 l3 l4 => xlpn (fun (B : Int32 × Int32 × Int32 → Prop) a => lbX7_leadingTo_7 Q l0 M (fun l2 l3 l4 => B (l2, l3, l4)) a.1 a.2.1 a.2.2) n (l2, l3, l4)) l2 l3 l4 := h
      unfold lbX7_leadingTo_7 at h
      refine x_iload dX7_leadingTo_7 rfl 9 rfl ?_
      refine x_bipush dX7_leadingTo_9 kb_16 11 rfl ?_
      refine x_icmp_gt dX7_leadingTo_11 79 14 rfl rfl (fun hc => ?_) (fun hc => ?_)
      · have h := h.1 hc
        refine x_iload_n dX7_leadingTo_79 rfl 80 rfl ?_
        exact x_iret dX7_leadingTo_80 ⟨rfl, h⟩
      · have h := h.2 hc
        refine x_iload_n dX7_leadingTo_14 rfl 15 rfl ?_
        refine x_if_eq dX7_leadingTo_15 79 18 rfl rfl (fun hc => ?_) (fun hc => ?_)
        · have h := h.1 hc
          refine x_iload_n dX7_leadingTo_79 rfl 80 rfl ?_
          exact x_iret dX7_leadingTo_80 ⟨rfl, h⟩
        · have h := h.2 hc
          refine x_iload_n dX7_leadingTo_18 rfl 19 rfl ?_
          refine x_istore dX7_leadingTo_19 (Nat.le_of_ble_eq_true rfl) [(0, .ref l0), (2, .int l2), (3, .int l3), (4, .int l4), (5, .int l2)] rfl 21 rfl ?_
          refine x_iconst dX7_leadingTo_21 kc_0 22 rfl ?_
          refine x_istore dX7_leadingTo_22 (Nat.le_of_ble_eq_true rfl) [(0, .ref l0), (2, .int l2), (3, .int l3), (4, .int l4), (5, .int l2), (6, .int 0)] rfl 24 rfl ?_
          refine x_weak [(0, .ref l0), (2, .int l2), (4, .int l4), (5, .int l2), (6, .int 0)] [0, 1, 3, 4, 5] rfl ?_
          exact nX7_leadingTo_24 hB7 hk_l0 h
  exact hB7 n l2 l3 l4 h
def FX7_leadingTo (Q : Int32 → Prop) (l0 : Nat) (l1 : Int32) (M : Mem) : Prop :=
  NX7_leadingTo_7 Q l0 l1 1 0 M
theorem eX7_leadingTo {Q : Int32 → Prop} {l0 : Nat} {l1 : Int32} {M : Mem} (hk_l0 : SHk l0 = 7) (h : FX7_leadingTo Q l0 l1 M) : xX RX7 cX7_leadingTo 7 (some .int) 1 0 [(0, .ref l0), (1, .int l1)] [] M (xQi (xP M Q)) := by
  unfold FX7_leadingTo at h
  refine x_iload_n dX7_leadingTo_0 rfl 1 rfl ?_
  refine x_istore_n dX7_leadingTo_1 (Nat.le_of_ble_eq_true rfl) [(0, .ref l0), (1, .int l1), (2, .int l1)] rfl 2 rfl ?_
  refine x_iconst dX7_leadingTo_2 kc_1 3 rfl ?_
  refine x_istore_n dX7_leadingTo_3 (Nat.le_of_ble_eq_true rfl) [(0, .ref l0), (1, .int l1), (2, .int l1), (3, .int 1)] rfl 4 rfl ?_
  refine x_iconst dX7_leadingTo_4 kc_0 5 rfl ?_
  refine x_istore dX7_leadingTo_5 (Nat.le_of_ble_eq_true rfl) [(0, .ref l0), (1, .int l1), (2, .int l1), (3, .int 1), (4, .int 0)] rfl 7 rfl ?_
  refine x_weak [(0, .ref l0), (2, .int l1), (3, .int 1), (4, .int 0)] [0, 2, 3, 4] rfl ?_
  exact nX7_leadingTo_7 hk_l0 h
theorem cX7_leadingTo_ {Q : Int32 → Prop} {l0 : Nat} {l1 : Int32} {M : Mem} (hk_l0 : SHk l0 = 7) (h : FX7_leadingTo Q l0 l1 M) : xM yX7_leadingTo cX7_leadingTo 7 (some .int) 1 [.ref l0, .int l1] M (xQi (xP M Q)) := xM_of (by decide +kernel) (Nat.le_of_ble_eq_true rfl) (eX7_leadingTo hk_l0 h)
theorem kX7_leadingTo {own : String} {cc : ByteArray} {nL : Nat} {rt : Option FieldType} {d pc ix : Nat} {L : List (Nat × Value)} {st : List Value} {M : Mem} {Rt : xGt → Array Value → State → Outcome → State → Prop} {Q : Int32 → Prop} {l0 : Nat} {l1 : Int32} (hd : decode cc pc = .ok (.invokevirtual ix, 3)) (q : Nat) (hq : pc + 3 = q) (hk_l0 : SHk l0 = 7) (w1 : Cond.methodLink own ix yX7_leadingTo ∈ xTs) (hr : 1 < d) (hst : (st.map fun v => v.category).sum ≤ 8) (h : FX7_leadingTo Q l0 l1 M) (k : ∀ (r : Int32), Q r → xX own cc nL rt d q L (.int r :: st) M Rt) : xX own cc nL rt d pc L (.int l1 :: .ref l0 :: st) M Rt :=
  x_callV_i (n := 1) (As := [.int l1]) hd q hq hk_l0 (by decide) rfl rfl w1 kw5_27 ks2_12 kw1_8 kw5_28 (by decide +kernel) rfl hr (by decide) hst _ rfl (cX7_leadingTo_ hk_l0 h) (fun r N hN => by obtain ⟨rfl, hN⟩ := hN; exact k r hN)
def lbX7_neededOf_5 (Q : Int32 → Prop) (l0 : Nat) (l1 : Int32) (l2 : Int32) (M : Mem) (B5 : Int32 → Int32 → Prop) (l3 : Int32) (l4 : Int32) : Prop :=
  ((16 ≤ l4 → Q l3) ∧ (¬ 16 ≤ l4 → ∀ y1 : Int32, y1 = (1 : Int32) <<< (l4 &&& 31) → (((l1 &&& y1) = 0 → B5 l3 (l4 + 1)) ∧ (¬ (l1 &&& y1) = 0 → FX7_closure (fun (r2 : Int32) => ((¬ (r2 &&& l2) = 0 → B5 l3 (l4 + 1)) ∧ ((r2 &&& l2) = 0 → B5 (l3 ||| y1) (l4 + 1)))) l0 (l1 &&& (y1 ^^^ (-1))) (-1) M))))
def NX7_neededOf_5 (Q : Int32 → Prop) (l0 : Nat) (l1 : Int32) (l2 : Int32) (l3 : Int32) (l4 : Int32) (M : Mem) : Prop := xlp (fun (B : Int32 × Int32 → Prop) a => lbX7_neededOf_5 Q l0 l1 l2 M (fun l3 l4 => B (l3, l4)) a.1 a.2) (l3, l4)
theorem nX7_neededOf_5 {Q : Int32 → Prop} {l0 : Nat} {l1 : Int32} {l2 : Int32} {l3 : Int32} {l4 : Int32} {M : Mem} (hk_l0 : SHk l0 = 7) (h : NX7_neededOf_5 Q l0 l1 l2 l3 l4 M) : xX RX7 cX7_neededOf 6 (some .int) 2 5 [(0, .ref l0), (1, .int l1), (2, .int l2), (3, .int l3), (4, .int l4)] [] M (xQi (xP M Q)) := by
  obtain ⟨n, h⟩ := h
  have hB5 : ∀ (n : Nat) (l3 : Int32) (l4 : Int32), xlpn (fun (B : Int32 × Int32 → Prop) a => lbX7_neededOf_5 Q l0 l1 l2 M (fun l3 l4 => B (l3, l4)) a.1 a.2) n (l3, l4) → xX RX7 cX7_neededOf 6 (some .int) 2 5 [(0, .ref l0), (1, .int l1), (2, .int l2), (3, .int l3), (4, .int l4)] [] M (xQi (xP M Q)) := by
    intro n
    induction n with
    | zero => intro l3 l4 h; exact False.elim h
    | succ n ih =>
      intro l3 l4 h
      have hB5 := ih
      have h : lbX7_neededOf_5 Q l0 l1 l2 M (fun l3 l4 => xlpn (fun (B : Int32 × Int32 → Prop) a => lbX7_neededOf_5 Q l0 l1 l2 M (fun l3 l4 => B (l3, l4)) a.1 a.2) n (l3, l4)) l3 l4 := h
      unfold lbX7_neededOf_5 at h
      refine x_iload dX7_neededOf_5 rfl 7 rfl ?_
      refine x_bipush dX7_neededOf_7 kb_16 9 rfl ?_
      refine x_icmp_ge dX7_neededOf_9 52 12 rfl rfl (fun hc => ?_) (fun hc => ?_)
      · have h := h.1 hc
        refine x_iload_n dX7_neededOf_52 rfl 53 rfl ?_
        exact x_iret dX7_neededOf_53 ⟨rfl, h⟩
      · have h := h.2 hc
        refine x_iconst dX7_neededOf_12 kc_1 13 rfl ?_
        refine x_iload dX7_neededOf_13 rfl 15 rfl ?_
        refine x_ishl dX7_neededOf_15 16 rfl ?_
        refine x_top (fun y1 hy1 => ?_)
        have h := h y1 hy1
        refine x_istore dX7_neededOf_16 (Nat.le_of_ble_eq_true rfl) [(0, .ref l0), (1, .int l1), (2, .int l2), (3, .int l3), (4, .int l4), (5, .int y1)] rfl 18 rfl ?_
        refine x_iload_n dX7_neededOf_18 rfl 19 rfl ?_
        refine x_iload dX7_neededOf_19 rfl 21 rfl ?_
        refine x_iand dX7_neededOf_21 22 rfl ?_
        refine x_if_eq dX7_neededOf_22 46 25 rfl rfl (fun hc => ?_) (fun hc => ?_)
        · have h := h.1 hc
          refine x_iinc dX7_neededOf_46 rfl (congrArg (l4 + ·) kc_1) (Nat.le_of_ble_eq_true rfl) [(0, .ref l0), (1, .int l1), (2, .int l2), (3, .int l3), (4, .int (l4 + 1)), (5, .int y1)] rfl 49 rfl ?_
          refine x_goto dX7_neededOf_49 5 rfl ?_
          refine x_weak [(0, .ref l0), (1, .int l1), (2, .int l2), (3, .int l3), (4, .int (l4 + 1))] [0, 1, 2, 3, 4] rfl ?_
          exact hB5 _ _ h
        · have h := h.2 hc
          refine x_aload_n dX7_neededOf_25 rfl 26 rfl ?_
          refine x_iload_n dX7_neededOf_26 rfl 27 rfl ?_
          refine x_iload dX7_neededOf_27 rfl 29 rfl ?_
          refine x_iconst dX7_neededOf_29 kc_m1 30 rfl ?_
          refine x_ixor dX7_neededOf_30 31 rfl ?_
          refine x_iand dX7_neededOf_31 32 rfl ?_
          refine x_iconst dX7_neededOf_32 kc_m1 33 rfl ?_
          refine kX7_closure dX7_neededOf_33 36 rfl hk_l0 kw5_20 (Nat.le_of_ble_eq_true rfl) (Nat.le_of_ble_eq_true rfl) h (fun r2 h => ?_)
          refine x_iload_n dX7_neededOf_36 rfl 37 rfl ?_
          refine x_iand dX7_neededOf_37 38 rfl ?_
          refine x_if_ne dX7_neededOf_38 46 41 rfl rfl (fun hc => ?_) (fun hc => ?_)
          · have h := h.1 hc
            refine x_iinc dX7_neededOf_46 rfl (congrArg (l4 + ·) kc_1) (Nat.le_of_ble_eq_true rfl) [(0, .ref l0), (1, .int l1), (2, .int l2), (3, .int l3), (4, .int (l4 + 1)), (5, .int y1)] rfl 49 rfl ?_
            refine x_goto dX7_neededOf_49 5 rfl ?_
            refine x_weak [(0, .ref l0), (1, .int l1), (2, .int l2), (3, .int l3), (4, .int (l4 + 1))] [0, 1, 2, 3, 4] rfl ?_
            exact hB5 _ _ h
          · have h := h.2 hc
            refine x_iload_n dX7_neededOf_41 rfl 42 rfl ?_
            refine x_iload dX7_neededOf_42 rfl 44 rfl ?_
            refine x_ior dX7_neededOf_44 45 rfl ?_
            refine x_istore_n dX7_neededOf_45 (Nat.le_of_ble_eq_true rfl) [(0, .ref l0), (1, .int l1), (2, .int l2), (3, .int (l3 ||| y1)), (4, .int l4), (5, .int y1)] rfl 46 rfl ?_
            refine x_iinc dX7_neededOf_46 rfl (congrArg (l4 + ·) kc_1) (Nat.le_of_ble_eq_true rfl) [(0, .ref l0), (1, .int l1), (2, .int l2), (3, .int (l3 ||| y1)), (4, .int (l4 + 1)), (5, .int y1)] rfl 49 rfl ?_
            refine x_goto dX7_neededOf_49 5 rfl ?_
            refine x_weak [(0, .ref l0), (1, .int l1), (2, .int l2), (3, .int (l3 ||| y1)), (4, .int (l4 + 1))] [0, 1, 2, 3, 4] rfl ?_
            exact hB5 _ _ h
  exact hB5 n l3 l4 h
def FX7_neededOf (Q : Int32 → Prop) (l0 : Nat) (l1 : Int32) (l2 : Int32) (M : Mem) : Prop :=
  NX7_neededOf_5 Q l0 l1 l2 0 0 M
theorem eX7_neededOf {Q : Int32 → Prop} {l0 : Nat} {l1 : Int32} {l2 : Int32} {M : Mem} (hk_l0 : SHk l0 = 7) (h : FX7_neededOf Q l0 l1 l2 M) : xX RX7 cX7_neededOf 6 (some .int) 2 0 [(0, .ref l0), (1, .int l1), (2, .int l2)] [] M (xQi (xP M Q)) := by
  unfold FX7_neededOf at h
  refine x_iconst dX7_neededOf_0 kc_0 1 rfl ?_
  refine x_istore_n dX7_neededOf_1 (Nat.le_of_ble_eq_true rfl) [(0, .ref l0), (1, .int l1), (2, .int l2), (3, .int 0)] rfl 2 rfl ?_
  refine x_iconst dX7_neededOf_2 kc_0 3 rfl ?_
  refine x_istore dX7_neededOf_3 (Nat.le_of_ble_eq_true rfl) [(0, .ref l0), (1, .int l1), (2, .int l2), (3, .int 0), (4, .int 0)] rfl 5 rfl ?_
  exact nX7_neededOf_5 hk_l0 h
theorem cX7_neededOf_ {Q : Int32 → Prop} {l0 : Nat} {l1 : Int32} {l2 : Int32} {M : Mem} (hk_l0 : SHk l0 = 7) (h : FX7_neededOf Q l0 l1 l2 M) : xM yX7_neededOf cX7_neededOf 6 (some .int) 2 [.ref l0, .int l1, .int l2] M (xQi (xP M Q)) := xM_of (by decide +kernel) (Nat.le_of_ble_eq_true rfl) (eX7_neededOf hk_l0 h)
theorem kX7_neededOf {own : String} {cc : ByteArray} {nL : Nat} {rt : Option FieldType} {d pc ix : Nat} {L : List (Nat × Value)} {st : List Value} {M : Mem} {Rt : xGt → Array Value → State → Outcome → State → Prop} {Q : Int32 → Prop} {l0 : Nat} {l1 : Int32} {l2 : Int32} (hd : decode cc pc = .ok (.invokevirtual ix, 3)) (q : Nat) (hq : pc + 3 = q) (hk_l0 : SHk l0 = 7) (w1 : Cond.methodLink own ix yX7_neededOf ∈ xTs) (hr : 2 < d) (hst : (st.map fun v => v.category).sum ≤ 8) (h : FX7_neededOf Q l0 l1 l2 M) (k : ∀ (r : Int32), Q r → xX own cc nL rt d q L (.int r :: st) M Rt) : xX own cc nL rt d pc L (.int l2 :: .int l1 :: .ref l0 :: st) M Rt :=
  x_callV_i (n := 2) (As := [.int l1, .int l2]) hd q hq hk_l0 (by decide) rfl rfl w1 kw5_31 ks2_13 kw1_8 kw5_32 (by decide +kernel) rfl hr (by decide) hst _ rfl (cX7_neededOf_ hk_l0 h) (fun r N hN => by obtain ⟨rfl, hN⟩ := hN; exact k r hN)
def NX7_fewestFor_107 (Q : Int32 → Prop) (B52 : Int32 → Int32 → Int32 → Prop) (l0 : Nat) (l2 : Int32) (l4 : Int32) (l5 : Int32) (l6 : Int32) (l7 : Int32) (l8 : Int32) (M : Mem) : Prop :=
  ((¬ l7 = l5 → B52 l6 ((l7 - l5) &&& l5) (l8 + 1)) ∧ (l7 = l5 → Q l6))
theorem nX7_fewestFor_107 {Q : Int32 → Prop} {B52 : Int32 → Int32 → Int32 → Prop} {l0 : Nat} {l2 : Int32} {l4 : Int32} {l5 : Int32} {l6 : Int32} {l7 : Int32} {l8 : Int32} {M : Mem} (hB52 : ∀ (l6 : Int32) (l7 : Int32) (l8 : Int32), B52 l6 l7 l8 → xX RX7 cX7_fewestFor 11 (some .int) 3 52 [(0, .ref l0), (2, .int l2), (4, .int l4), (5, .int l5), (6, .int l6), (7, .int l7), (8, .int l8)] [] M (xQi (xP M Q))) (hk_l0 : SHk l0 = 7) (h : NX7_fewestFor_107 Q B52 l0 l2 l4 l5 l6 l7 l8 M) : xX RX7 cX7_fewestFor 11 (some .int) 3 107 [(0, .ref l0), (2, .int l2), (4, .int l4), (5, .int l5), (6, .int l6), (7, .int l7), (8, .int l8)] [] M (xQi (xP M Q)) := by
  unfold NX7_fewestFor_107 at h
  refine x_iload dX7_fewestFor_107 rfl 109 rfl ?_
  refine x_iload dX7_fewestFor_109 rfl 111 rfl ?_
  refine x_icmp_ne dX7_fewestFor_111 117 114 rfl rfl (fun hc => ?_) (fun hc => ?_)
  · have h := h.1 hc
    refine x_iload dX7_fewestFor_117 rfl 119 rfl ?_
    refine x_iload dX7_fewestFor_119 rfl 121 rfl ?_
    refine x_isub dX7_fewestFor_121 122 rfl ?_
    refine x_iload dX7_fewestFor_122 rfl 124 rfl ?_
    refine x_iand dX7_fewestFor_124 125 rfl ?_
    refine x_istore dX7_fewestFor_125 (Nat.le_of_ble_eq_true rfl) [(0, .ref l0), (2, .int l2), (4, .int l4), (5, .int l5), (6, .int l6), (7, .int ((l7 - l5) &&& l5)), (8, .int l8)] rfl 127 rfl ?_
    refine x_iinc dX7_fewestFor_127 rfl (congrArg (l8 + ·) kc_1) (Nat.le_of_ble_eq_true rfl) [(0, .ref l0), (2, .int l2), (4, .int l4), (5, .int l5), (6, .int l6), (7, .int ((l7 - l5) &&& l5)), (8, .int (l8 + 1))] rfl 130 rfl ?_
    refine x_goto dX7_fewestFor_130 52 rfl ?_
    exact hB52 _ _ _ h
  · have h := h.2 hc
    refine x_goto dX7_fewestFor_114 133 rfl ?_
    refine x_iload dX7_fewestFor_133 rfl 135 rfl ?_
    exact x_iret dX7_fewestFor_135 ⟨rfl, h⟩
def NX7_fewestFor_84 (Q : Int32 → Prop) (B52 : Int32 → Int32 → Int32 → Prop) (l0 : Nat) (l2 : Int32) (l4 : Int32) (l5 : Int32) (l6 : Int32) (l7 : Int32) (l8 : Int32) (l9 : Int32) (s0 : Int32) (M : Mem) : Prop :=
  ((s0 = 0 → NX7_fewestFor_107 Q B52 l0 l2 l4 l5 l6 l7 l8 M) ∧ (¬ s0 = 0 → FX7_closure (fun (r1 : Int32) => (((r1 &&& l2) = 0 → NX7_fewestFor_107 Q B52 l0 l2 l4 l5 l6 l7 l8 M) ∧ (¬ (r1 &&& l2) = 0 → NX7_fewestFor_107 Q B52 l0 l2 l4 l5 l9 l7 l8 M))) l0 l9 (-1) M))
theorem nX7_fewestFor_84 {Q : Int32 → Prop} {B52 : Int32 → Int32 → Int32 → Prop} {l0 : Nat} {l2 : Int32} {l4 : Int32} {l5 : Int32} {l6 : Int32} {l7 : Int32} {l8 : Int32} {l9 : Int32} {s0 : Int32} {M : Mem} (hB52 : ∀ (l6 : Int32) (l7 : Int32) (l8 : Int32), B52 l6 l7 l8 → xX RX7 cX7_fewestFor 11 (some .int) 3 52 [(0, .ref l0), (2, .int l2), (4, .int l4), (5, .int l5), (6, .int l6), (7, .int l7), (8, .int l8)] [] M (xQi (xP M Q))) (hk_l0 : SHk l0 = 7) (h : NX7_fewestFor_84 Q B52 l0 l2 l4 l5 l6 l7 l8 l9 s0 M) : xX RX7 cX7_fewestFor 11 (some .int) 3 84 [(0, .ref l0), (2, .int l2), (4, .int l4), (5, .int l5), (6, .int l6), (7, .int l7), (8, .int l8), (9, .int l9)] [.int s0] M (xQi (xP M Q)) := by
  unfold NX7_fewestFor_84 at h
  refine x_istore dX7_fewestFor_84 (Nat.le_of_ble_eq_true rfl) [(0, .ref l0), (2, .int l2), (4, .int l4), (5, .int l5), (6, .int l6), (7, .int l7), (8, .int l8), (9, .int l9), (10, .int s0)] rfl 86 rfl ?_
  refine x_iload dX7_fewestFor_86 rfl 88 rfl ?_
  refine x_if_eq dX7_fewestFor_88 107 91 rfl rfl (fun hc => ?_) (fun hc => ?_)
  · have h := h.1 hc
    refine x_weak [(0, .ref l0), (2, .int l2), (4, .int l4), (5, .int l5), (6, .int l6), (7, .int l7), (8, .int l8)] [0, 1, 2, 3, 4, 5, 6] rfl ?_
    exact nX7_fewestFor_107 hB52 hk_l0 h
  · have h := h.2 hc
    refine x_aload_n dX7_fewestFor_91 rfl 92 rfl ?_
    refine x_iload dX7_fewestFor_92 rfl 94 rfl ?_
    refine x_iconst dX7_fewestFor_94 kc_m1 95 rfl ?_
    refine kX7_closure dX7_fewestFor_95 98 rfl hk_l0 kw5_20 (Nat.le_of_ble_eq_true rfl) (Nat.le_of_ble_eq_true rfl) h (fun r1 h => ?_)
    refine x_iload_n dX7_fewestFor_98 rfl 99 rfl ?_
    refine x_iand dX7_fewestFor_99 100 rfl ?_
    refine x_if_eq dX7_fewestFor_100 107 103 rfl rfl (fun hc => ?_) (fun hc => ?_)
    · have h := h.1 hc
      refine x_weak [(0, .ref l0), (2, .int l2), (4, .int l4), (5, .int l5), (6, .int l6), (7, .int l7), (8, .int l8)] [0, 1, 2, 3, 4, 5, 6] rfl ?_
      exact nX7_fewestFor_107 hB52 hk_l0 h
    · have h := h.2 hc
      refine x_iload dX7_fewestFor_103 rfl 105 rfl ?_
      refine x_istore dX7_fewestFor_105 (Nat.le_of_ble_eq_true rfl) [(0, .ref l0), (2, .int l2), (4, .int l4), (5, .int l5), (6, .int l9), (7, .int l7), (8, .int l8), (9, .int l9), (10, .int s0)] rfl 107 rfl ?_
      refine x_weak [(0, .ref l0), (2, .int l2), (4, .int l4), (5, .int l5), (6, .int l9), (7, .int l7), (8, .int l8)] [0, 1, 2, 3, 4, 5, 6] rfl ?_
      exact nX7_fewestFor_107 hB52 hk_l0 h
def lbX7_fewestFor_52 (Q : Int32 → Prop) (l0 : Nat) (l2 : Int32) (l4 : Int32) (l5 : Int32) (M : Mem) (B52 : Int32 → Int32 → Int32 → Prop) (l6 : Int32) (l7 : Int32) (l8 : Int32) : Prop :=
  ((65536 ≤ l8 → Q l6) ∧ (¬ 65536 ≤ l8 → FJ6_bitCount_0f7a4 (fun (r2 : Int32) => FJ6_bitCount_0f7a4 (fun (r3 : Int32) => ((r3 ≤ r2 → NX7_fewestFor_84 Q B52 l0 l2 l4 l5 l6 l7 l8 (l4 ||| l7) 0 M) ∧ (¬ r3 ≤ r2 → NX7_fewestFor_84 Q B52 l0 l2 l4 l5 l6 l7 l8 (l4 ||| l7) 1 M))) l6 M) (l4 ||| l7) M))
def NX7_fewestFor_52 (Q : Int32 → Prop) (l0 : Nat) (l2 : Int32) (l4 : Int32) (l5 : Int32) (l6 : Int32) (l7 : Int32) (l8 : Int32) (M : Mem) : Prop := xlp (fun (B : Int32 × Int32 × Int32 → Prop) a => lbX7_fewestFor_52 Q l0 l2 l4 l5 M (fun l6 l7 l8 => B (l6, l7, l8)) a.1 a.2.1 a.2.2) (l6, l7, l8)
theorem nX7_fewestFor_52 {Q : Int32 → Prop} {l0 : Nat} {l2 : Int32} {l4 : Int32} {l5 : Int32} {l6 : Int32} {l7 : Int32} {l8 : Int32} {M : Mem} (hk_l0 : SHk l0 = 7) (h : NX7_fewestFor_52 Q l0 l2 l4 l5 l6 l7 l8 M) : xX RX7 cX7_fewestFor 11 (some .int) 3 52 [(0, .ref l0), (2, .int l2), (4, .int l4), (5, .int l5), (6, .int l6), (7, .int l7), (8, .int l8)] [] M (xQi (xP M Q)) := by
  obtain ⟨n, h⟩ := h
  have hB52 : ∀ (n : Nat) (l6 : Int32) (l7 : Int32) (l8 : Int32), xlpn (fun (B : Int32 × Int32 × Int32 → Prop) a => lbX7_fewestFor_52 Q l0 l2 l4 l5 M (fun l6 l7 l8 => B (l6, l7, l8)) a.1 a.2.1 a.2.2) n (l6, l7, l8) → xX RX7 cX7_fewestFor 11 (some .int) 3 52 [(0, .ref l0), (2, .int l2), (4, .int l4), (5, .int l5), (6, .int l6), (7, .int l7), (8, .int l8)] [] M (xQi (xP M Q)) := by
    intro n
    induction n with
    | zero => intro l6 l7 l8 h; exact False.elim h
    | succ n ih =>
      intro l6 l7 l8 h
      have hB52 := ih
      have h : lbX7_fewestFor_52 Q l0 l2 l4 l5 M (fun l6 l7 l8 => xlpn (fun (B : Int32 × Int32 × Int32 → Prop) a => lbX7_fewestFor_52 Q l0 l2 l4 l5 M (fun l6 l7 l8 => B (l6, l7, l8)) a.1 a.2.1 a.2.2) n (l6, l7, l8)) l6 l7 l8 := h
      unfold lbX7_fewestFor_52 at h
      refine x_iload dX7_fewestFor_52 rfl 54 rfl ?_
      refine x_ldc dX7_fewestFor_54 kw5_33 56 rfl ?_
      refine x_icmp_ge dX7_fewestFor_56 133 59 rfl rfl (fun hc => ?_) (fun hc => ?_)
      · have h := h.1 hc
        refine x_iload dX7_fewestFor_133 rfl 135 rfl ?_
        exact x_iret dX7_fewestFor_135 ⟨rfl, h⟩
      · have h := h.2 hc
        refine x_iload dX7_fewestFor_59 rfl 61 rfl ?_
        refine x_iload dX7_fewestFor_61 rfl 63 rfl ?_
        refine x_ior dX7_fewestFor_63 64 rfl ?_
        refine x_istore dX7_fewestFor_64 (Nat.le_of_ble_eq_true rfl) [(0, .ref l0), (2, .int l2), (4, .int l4), (5, .int l5), (6, .int l6), (7, .int l7), (8, .int l8), (9, .int (l4 ||| l7))] rfl 66 rfl ?_
        refine x_iload dX7_fewestFor_66 rfl 68 rfl ?_
        refine kJ6_bitCount_0f7a4 dX7_fewestFor_68 71 rfl kw5_34 (Nat.le_of_ble_eq_true rfl) (Nat.le_of_ble_eq_true rfl) h (fun r2 h => ?_)
        refine x_iload dX7_fewestFor_71 rfl 73 rfl ?_
        refine kJ6_bitCount_0f7a4 dX7_fewestFor_73 76 rfl kw5_34 (Nat.le_of_ble_eq_true rfl) (Nat.le_of_ble_eq_true rfl) h (fun r3 h => ?_)
        refine x_icmp_ge dX7_fewestFor_76 83 79 rfl rfl (fun hc => ?_) (fun hc => ?_)
        · have h := h.1 hc
          refine x_iconst dX7_fewestFor_83 kc_0 84 rfl ?_
          exact nX7_fewestFor_84 hB52 hk_l0 h
        · have h := h.2 hc
          refine x_iconst dX7_fewestFor_79 kc_1 80 rfl ?_
          refine x_goto dX7_fewestFor_80 84 rfl ?_
          exact nX7_fewestFor_84 hB52 hk_l0 h
  exact hB52 n l6 l7 l8 h
def FX7_fewestFor (Q : Int32 → Prop) (l0 : Nat) (l1 : Int32) (M : Mem) : Prop :=
  ∀ y4 : Int32, y4 = (1 : Int32) <<< (l1 &&& 31) → FX7_leadingTo (fun (r5 : Int32) => ∀ y6 : Int32, y6 = r5 &&& (y4 ^^^ (-1)) → FX7_closure (fun (r7 : Int32) => ((¬ (r7 &&& y4) = 0 → FX7_neededOf (fun (r8 : Int32) => ∀ y9 : Int32, y9 = y6 &&& (r8 ^^^ (-1)) → NX7_fewestFor_52 Q l0 y4 r8 y9 y6 0 0 M) l0 y6 y4 M) ∧ ((r7 &&& y4) = 0 → Q 0))) l0 y6 (-1) M) l0 y4 M
theorem eX7_fewestFor {Q : Int32 → Prop} {l0 : Nat} {l1 : Int32} {M : Mem} (hk_l0 : SHk l0 = 7) (h : FX7_fewestFor Q l0 l1 M) : xX RX7 cX7_fewestFor 11 (some .int) 3 0 [(0, .ref l0), (1, .int l1)] [] M (xQi (xP M Q)) := by
  unfold FX7_fewestFor at h
  refine x_iconst dX7_fewestFor_0 kc_1 1 rfl ?_
  refine x_iload_n dX7_fewestFor_1 rfl 2 rfl ?_
  refine x_ishl dX7_fewestFor_2 3 rfl ?_
  refine x_top (fun y4 hy4 => ?_)
  have h := h y4 hy4
  refine x_istore_n dX7_fewestFor_3 (Nat.le_of_ble_eq_true rfl) [(0, .ref l0), (1, .int l1), (2, .int y4)] rfl 4 rfl ?_
  refine x_aload_n dX7_fewestFor_4 rfl 5 rfl ?_
  refine x_iload_n dX7_fewestFor_5 rfl 6 rfl ?_
  refine kX7_leadingTo dX7_fewestFor_6 9 rfl hk_l0 kw5_25 (Nat.le_of_ble_eq_true rfl) (Nat.le_of_ble_eq_true rfl) h (fun r5 h => ?_)
  refine x_iload_n dX7_fewestFor_9 rfl 10 rfl ?_
  refine x_iconst dX7_fewestFor_10 kc_m1 11 rfl ?_
  refine x_ixor dX7_fewestFor_11 12 rfl ?_
  refine x_iand dX7_fewestFor_12 13 rfl ?_
  refine x_top (fun y6 hy6 => ?_)
  have h := h y6 hy6
  refine x_istore_n dX7_fewestFor_13 (Nat.le_of_ble_eq_true rfl) [(0, .ref l0), (1, .int l1), (2, .int y4), (3, .int y6)] rfl 14 rfl ?_
  refine x_aload_n dX7_fewestFor_14 rfl 15 rfl ?_
  refine x_iload_n dX7_fewestFor_15 rfl 16 rfl ?_
  refine x_iconst dX7_fewestFor_16 kc_m1 17 rfl ?_
  refine kX7_closure dX7_fewestFor_17 20 rfl hk_l0 kw5_20 (Nat.le_of_ble_eq_true rfl) (Nat.le_of_ble_eq_true rfl) h (fun r7 h => ?_)
  refine x_iload_n dX7_fewestFor_20 rfl 21 rfl ?_
  refine x_iand dX7_fewestFor_21 22 rfl ?_
  refine x_if_ne dX7_fewestFor_22 27 25 rfl rfl (fun hc => ?_) (fun hc => ?_)
  · have h := h.1 hc
    refine x_aload_n dX7_fewestFor_27 rfl 28 rfl ?_
    refine x_iload_n dX7_fewestFor_28 rfl 29 rfl ?_
    refine x_iload_n dX7_fewestFor_29 rfl 30 rfl ?_
    refine kX7_neededOf dX7_fewestFor_30 33 rfl hk_l0 kw5_29 (Nat.le_of_ble_eq_true rfl) (Nat.le_of_ble_eq_true rfl) h (fun r8 h => ?_)
    refine x_istore dX7_fewestFor_33 (Nat.le_of_ble_eq_true rfl) [(0, .ref l0), (1, .int l1), (2, .int y4), (3, .int y6), (4, .int r8)] rfl 35 rfl ?_
    refine x_iload_n dX7_fewestFor_35 rfl 36 rfl ?_
    refine x_iload dX7_fewestFor_36 rfl 38 rfl ?_
    refine x_iconst dX7_fewestFor_38 kc_m1 39 rfl ?_
    refine x_ixor dX7_fewestFor_39 40 rfl ?_
    refine x_iand dX7_fewestFor_40 41 rfl ?_
    refine x_top (fun y9 hy9 => ?_)
    have h := h y9 hy9
    refine x_istore dX7_fewestFor_41 (Nat.le_of_ble_eq_true rfl) [(0, .ref l0), (1, .int l1), (2, .int y4), (3, .int y6), (4, .int r8), (5, .int y9)] rfl 43 rfl ?_
    refine x_iload_n dX7_fewestFor_43 rfl 44 rfl ?_
    refine x_istore dX7_fewestFor_44 (Nat.le_of_ble_eq_true rfl) [(0, .ref l0), (1, .int l1), (2, .int y4), (3, .int y6), (4, .int r8), (5, .int y9), (6, .int y6)] rfl 46 rfl ?_
    refine x_iconst dX7_fewestFor_46 kc_0 47 rfl ?_
    refine x_istore dX7_fewestFor_47 (Nat.le_of_ble_eq_true rfl) [(0, .ref l0), (1, .int l1), (2, .int y4), (3, .int y6), (4, .int r8), (5, .int y9), (6, .int y6), (7, .int 0)] rfl 49 rfl ?_
    refine x_iconst dX7_fewestFor_49 kc_0 50 rfl ?_
    refine x_istore dX7_fewestFor_50 (Nat.le_of_ble_eq_true rfl) [(0, .ref l0), (1, .int l1), (2, .int y4), (3, .int y6), (4, .int r8), (5, .int y9), (6, .int y6), (7, .int 0), (8, .int 0)] rfl 52 rfl ?_
    refine x_weak [(0, .ref l0), (2, .int y4), (4, .int r8), (5, .int y9), (6, .int y6), (7, .int 0), (8, .int 0)] [0, 2, 4, 5, 6, 7, 8] rfl ?_
    exact nX7_fewestFor_52 hk_l0 h
  · have h := h.2 hc
    refine x_iconst dX7_fewestFor_25 kc_0 26 rfl ?_
    exact x_iret dX7_fewestFor_26 ⟨rfl, h⟩
theorem cX7_fewestFor_ {Q : Int32 → Prop} {l0 : Nat} {l1 : Int32} {M : Mem} (hk_l0 : SHk l0 = 7) (h : FX7_fewestFor Q l0 l1 M) : xM yX7_fewestFor cX7_fewestFor 11 (some .int) 3 [.ref l0, .int l1] M (xQi (xP M Q)) := xM_of (by decide +kernel) (Nat.le_of_ble_eq_true rfl) (eX7_fewestFor hk_l0 h)
theorem kX7_fewestFor {own : String} {cc : ByteArray} {nL : Nat} {rt : Option FieldType} {d pc ix : Nat} {L : List (Nat × Value)} {st : List Value} {M : Mem} {Rt : xGt → Array Value → State → Outcome → State → Prop} {Q : Int32 → Prop} {l0 : Nat} {l1 : Int32} (hd : decode cc pc = .ok (.invokevirtual ix, 3)) (q : Nat) (hq : pc + 3 = q) (hk_l0 : SHk l0 = 7) (w1 : Cond.methodLink own ix yX7_fewestFor ∈ xTs) (hr : 3 < d) (hst : (st.map fun v => v.category).sum ≤ 8) (h : FX7_fewestFor Q l0 l1 M) (k : ∀ (r : Int32), Q r → xX own cc nL rt d q L (.int r :: st) M Rt) : xX own cc nL rt d pc L (.int l1 :: .ref l0 :: st) M Rt :=
  x_callV_i (n := 1) (As := [.int l1]) hd q hq hk_l0 (by decide) rfl rfl w1 kw5_22 kw5_23 kw1_8 kw5_24 (by decide +kernel) rfl hr (by decide) hst _ rfl (cX7_fewestFor_ hk_l0 h) (fun r N hN => by obtain ⟨rfl, hN⟩ := hN; exact k r hN)
def FX9_addPillar (Q : Int32 → Mem → Prop) (l0 : Nat) (l1 : Int32) (M : Mem) : Prop :=
  (((M l0 10) < 10 → vp_in (M l0 10) 10 ∧ ∀ M1 : Mem, M1 = xu M (l0 + 1) (ix (M l0 10)) l1 → vp_in (M l0 10) 10 ∧ ∀ M2 : Mem, M2 = xu M1 (l0 + 2) (ix (M l0 10)) (-1) → vp_in (M l0 10) 10 ∧ ∀ M3 : Mem, M3 = xu M2 (l0 + 3) (ix (M l0 10)) (-100) → ∀ M4 : Mem, M4 = xu M3 l0 10 ((M3 l0 10) + 1) → FX9_climb (fun (M5 : Mem) => Q (M l0 10) M5) l0 M4) ∧ (¬ (M l0 10) < 10 → Q (-1) M))
theorem eX9_addPillar {Q : Int32 → Mem → Prop} {l0 : Nat} {l1 : Int32} {M : Mem} (hk_l0 : SHk l0 = 9) (h : FX9_addPillar Q l0 l1 M) : xX RX9 cX9_addPillar 3 (some .int) 4 0 [(0, .ref l0), (1, .int l1)] [] M (xQi Q) := by
  unfold FX9_addPillar at h
  refine x_aload_n dX9_addPillar_0 rfl 1 rfl ?_
  refine gf9_10 dX9_addPillar_1 4 rfl hk_l0 kw1_68 ?_
  refine x_bipush dX9_addPillar_4 kb_10 6 rfl ?_
  refine x_icmp_lt dX9_addPillar_6 11 9 rfl rfl (fun hc => ?_) (fun hc => ?_)
  · have h := h.1 hc
    refine x_aload_n dX9_addPillar_11 rfl 12 rfl ?_
    refine gf9_10 dX9_addPillar_12 15 rfl hk_l0 kw1_68 ?_
    refine x_istore_n dX9_addPillar_15 (Nat.le_of_ble_eq_true rfl) [(0, .ref l0), (1, .int l1), (2, .int (M l0 10))] rfl 16 rfl ?_
    refine x_aload_n dX9_addPillar_16 rfl 17 rfl ?_
    refine gf9_1 dX9_addPillar_17 20 rfl hk_l0 kw1_46 ?_
    refine x_iload_n dX9_addPillar_20 rfl 21 rfl ?_
    refine x_iload_n dX9_addPillar_21 rfl 22 rfl ?_
    obtain ⟨hin, h⟩ := h
    refine x_iastore dX9_addPillar_22 (ly9_1 hk_l0) hin 23 rfl (x_mem (fun M1 hM1 => ?_))
    have h := h M1 hM1
    refine x_aload_n dX9_addPillar_23 rfl 24 rfl ?_
    refine gf9_2 dX9_addPillar_24 27 rfl hk_l0 kw1_50 ?_
    refine x_iload_n dX9_addPillar_27 rfl 28 rfl ?_
    refine x_iconst dX9_addPillar_28 kc_m1 29 rfl ?_
    obtain ⟨hin, h⟩ := h
    refine x_iastore dX9_addPillar_29 (ly9_2 hk_l0) hin 30 rfl (x_mem (fun M2 hM2 => ?_))
    have h := h M2 hM2
    refine x_aload_n dX9_addPillar_30 rfl 31 rfl ?_
    refine gf9_3 dX9_addPillar_31 34 rfl hk_l0 kw1_52 ?_
    refine x_iload_n dX9_addPillar_34 rfl 35 rfl ?_
    refine x_bipush dX9_addPillar_35 kb_m100 37 rfl ?_
    obtain ⟨hin, h⟩ := h
    refine x_iastore dX9_addPillar_37 (ly9_3 hk_l0) hin 38 rfl (x_mem (fun M3 hM3 => ?_))
    have h := h M3 hM3
    refine x_aload_n dX9_addPillar_38 rfl 39 rfl ?_
    refine x_dup dX9_addPillar_39 rfl 40 rfl ?_
    refine gf9_10 dX9_addPillar_40 43 rfl hk_l0 kw1_68 ?_
    refine x_iconst dX9_addPillar_43 kc_1 44 rfl ?_
    refine x_iadd dX9_addPillar_44 45 rfl ?_
    refine pf9_10 dX9_addPillar_45 48 rfl hk_l0 kw1_68 (x_mem (fun M4 hM4 => ?_))
    have h := h M4 hM4
    refine x_aload_n dX9_addPillar_48 rfl 49 rfl ?_
    refine kX9_climb dX9_addPillar_49 52 rfl hk_l0 kw2_193 (Nat.le_of_ble_eq_true rfl) (Nat.le_of_ble_eq_true rfl) h (fun M5 h => ?_)
    refine x_iload_n dX9_addPillar_52 rfl 53 rfl ?_
    exact x_iret dX9_addPillar_53 h
  · have h := h.2 hc
    refine x_iconst dX9_addPillar_9 kc_m1 10 rfl ?_
    exact x_iret dX9_addPillar_10 h
theorem cX9_addPillar_ {Q : Int32 → Mem → Prop} {l0 : Nat} {l1 : Int32} {M : Mem} (hk_l0 : SHk l0 = 9) (h : FX9_addPillar Q l0 l1 M) : xM yX9_addPillar cX9_addPillar 3 (some .int) 4 [.ref l0, .int l1] M (xQi Q) := xM_of (by decide +kernel) (Nat.le_of_ble_eq_true rfl) (eX9_addPillar hk_l0 h)
theorem kX9_addPillar {own : String} {cc : ByteArray} {nL : Nat} {rt : Option FieldType} {d pc ix : Nat} {L : List (Nat × Value)} {st : List Value} {M : Mem} {Rt : xGt → Array Value → State → Outcome → State → Prop} {Q : Int32 → Mem → Prop} {l0 : Nat} {l1 : Int32} (hd : decode cc pc = .ok (.invokevirtual ix, 3)) (q : Nat) (hq : pc + 3 = q) (hk_l0 : SHk l0 = 9) (w1 : Cond.methodLink own ix yX9_addPillar ∈ xTs) (hr : 4 < d) (hst : (st.map fun v => v.category).sum ≤ 8) (h : FX9_addPillar Q l0 l1 M) (k : ∀ (r : Int32) (N : Mem), Q r N → xX own cc nL rt d q L (.int r :: st) N Rt) : xX own cc nL rt d pc L (.int l1 :: .ref l0 :: st) M Rt :=
  x_callV_i (n := 1) (As := [.int l1]) hd q hq hk_l0 (by decide) rfl rfl w1 kw2_190 kw2_191 kw1_3 kw2_192 (by decide +kernel) rfl hr (by decide) hst _ rfl (cX9_addPillar_ hk_l0 h) k
def FX9_addSaint (Q : Int32 → Mem → Prop) (l0 : Nat) (l1 : Int32) (l2 : Int32) (l3 : Int32) (M : Mem) : Prop :=
  (((M l0 11) < 14 → vp_in (M l0 11) 14 ∧ ∀ M1 : Mem, M1 = xu M (l0 + 4) (ix (M l0 11)) l1 → vp_in (M l0 11) 14 ∧ ∀ M2 : Mem, M2 = xu M1 (l0 + 5) (ix (M l0 11)) l2 → vp_in (M l0 11) 14 ∧ ∀ M3 : Mem, M3 = xu M2 (l0 + 6) (ix (M l0 11)) l3 → vp_in (M l0 11) 14 ∧ ∀ M4 : Mem, M4 = xu M3 (l0 + 7) (ix (M l0 11)) 0 → ∀ M5 : Mem, M5 = xu M4 l0 11 ((M4 l0 11) + 1) → FX9_joinGround (fun (M6 : Mem) => FX9_climb (fun (M7 : Mem) => Q (M l0 11) M7) l0 M6) l0 (M l0 11) M5) ∧ (¬ (M l0 11) < 14 → Q (-1) M))
theorem eX9_addSaint {Q : Int32 → Mem → Prop} {l0 : Nat} {l1 : Int32} {l2 : Int32} {l3 : Int32} {M : Mem} (hk_l0 : SHk l0 = 9) (h : FX9_addSaint Q l0 l1 l2 l3 M) : xX RX9 cX9_addSaint 5 (some .int) 4 0 [(0, .ref l0), (1, .int l1), (2, .int l2), (3, .int l3)] [] M (xQi Q) := by
  unfold FX9_addSaint at h
  refine x_aload_n dX9_addSaint_0 rfl 1 rfl ?_
  refine gf9_11 dX9_addSaint_1 4 rfl hk_l0 kw1_72 ?_
  refine x_bipush dX9_addSaint_4 kb_14 6 rfl ?_
  refine x_icmp_lt dX9_addSaint_6 11 9 rfl rfl (fun hc => ?_) (fun hc => ?_)
  · have h := h.1 hc
    refine x_aload_n dX9_addSaint_11 rfl 12 rfl ?_
    refine gf9_11 dX9_addSaint_12 15 rfl hk_l0 kw1_72 ?_
    refine x_istore dX9_addSaint_15 (Nat.le_of_ble_eq_true rfl) [(0, .ref l0), (1, .int l1), (2, .int l2), (3, .int l3), (4, .int (M l0 11))] rfl 17 rfl ?_
    refine x_aload_n dX9_addSaint_17 rfl 18 rfl ?_
    refine gf9_4 dX9_addSaint_18 21 rfl hk_l0 kw1_55 ?_
    refine x_iload dX9_addSaint_21 rfl 23 rfl ?_
    refine x_iload_n dX9_addSaint_23 rfl 24 rfl ?_
    obtain ⟨hin, h⟩ := h
    refine x_iastore dX9_addSaint_24 (ly9_4 hk_l0) hin 25 rfl (x_mem (fun M1 hM1 => ?_))
    have h := h M1 hM1
    refine x_aload_n dX9_addSaint_25 rfl 26 rfl ?_
    refine gf9_5 dX9_addSaint_26 29 rfl hk_l0 kw1_58 ?_
    refine x_iload dX9_addSaint_29 rfl 31 rfl ?_
    refine x_iload_n dX9_addSaint_31 rfl 32 rfl ?_
    obtain ⟨hin, h⟩ := h
    refine x_iastore dX9_addSaint_32 (ly9_5 hk_l0) hin 33 rfl (x_mem (fun M2 hM2 => ?_))
    have h := h M2 hM2
    refine x_aload_n dX9_addSaint_33 rfl 34 rfl ?_
    refine gf9_6 dX9_addSaint_34 37 rfl hk_l0 kw1_60 ?_
    refine x_iload dX9_addSaint_37 rfl 39 rfl ?_
    refine x_iload_n dX9_addSaint_39 rfl 40 rfl ?_
    obtain ⟨hin, h⟩ := h
    refine x_iastore dX9_addSaint_40 (ly9_6 hk_l0) hin 41 rfl (x_mem (fun M3 hM3 => ?_))
    have h := h M3 hM3
    refine x_aload_n dX9_addSaint_41 rfl 42 rfl ?_
    refine gf9_7 dX9_addSaint_42 45 rfl hk_l0 kw1_63 ?_
    refine x_iload dX9_addSaint_45 rfl 47 rfl ?_
    refine x_iconst dX9_addSaint_47 kc_0 48 rfl ?_
    obtain ⟨hin, h⟩ := h
    refine x_iastore dX9_addSaint_48 (ly9_7 hk_l0) hin 49 rfl (x_mem (fun M4 hM4 => ?_))
    have h := h M4 hM4
    refine x_aload_n dX9_addSaint_49 rfl 50 rfl ?_
    refine x_dup dX9_addSaint_50 rfl 51 rfl ?_
    refine gf9_11 dX9_addSaint_51 54 rfl hk_l0 kw1_72 ?_
    refine x_iconst dX9_addSaint_54 kc_1 55 rfl ?_
    refine x_iadd dX9_addSaint_55 56 rfl ?_
    refine pf9_11 dX9_addSaint_56 59 rfl hk_l0 kw1_72 (x_mem (fun M5 hM5 => ?_))
    have h := h M5 hM5
    refine x_aload_n dX9_addSaint_59 rfl 60 rfl ?_
    refine x_iload dX9_addSaint_60 rfl 62 rfl ?_
    refine kX9_joinGround dX9_addSaint_62 65 rfl hk_l0 kw2_220 (Nat.le_of_ble_eq_true rfl) (Nat.le_of_ble_eq_true rfl) h (fun M6 h => ?_)
    refine x_aload_n dX9_addSaint_65 rfl 66 rfl ?_
    refine kX9_climb dX9_addSaint_66 69 rfl hk_l0 kw2_193 (Nat.le_of_ble_eq_true rfl) (Nat.le_of_ble_eq_true rfl) h (fun M7 h => ?_)
    refine x_iload dX9_addSaint_69 rfl 71 rfl ?_
    exact x_iret dX9_addSaint_71 h
  · have h := h.2 hc
    refine x_iconst dX9_addSaint_9 kc_m1 10 rfl ?_
    exact x_iret dX9_addSaint_10 h
theorem cX9_addSaint_ {Q : Int32 → Mem → Prop} {l0 : Nat} {l1 : Int32} {l2 : Int32} {l3 : Int32} {M : Mem} (hk_l0 : SHk l0 = 9) (h : FX9_addSaint Q l0 l1 l2 l3 M) : xM yX9_addSaint cX9_addSaint 5 (some .int) 4 [.ref l0, .int l1, .int l2, .int l3] M (xQi Q) := xM_of (by decide +kernel) (Nat.le_of_ble_eq_true rfl) (eX9_addSaint hk_l0 h)
theorem kX9_addSaint {own : String} {cc : ByteArray} {nL : Nat} {rt : Option FieldType} {d pc ix : Nat} {L : List (Nat × Value)} {st : List Value} {M : Mem} {Rt : xGt → Array Value → State → Outcome → State → Prop} {Q : Int32 → Mem → Prop} {l0 : Nat} {l1 : Int32} {l2 : Int32} {l3 : Int32} (hd : decode cc pc = .ok (.invokevirtual ix, 3)) (q : Nat) (hq : pc + 3 = q) (hk_l0 : SHk l0 = 9) (w1 : Cond.methodLink own ix yX9_addSaint ∈ xTs) (hr : 4 < d) (hst : (st.map fun v => v.category).sum ≤ 8) (h : FX9_addSaint Q l0 l1 l2 l3 M) (k : ∀ (r : Int32) (N : Mem), Q r N → xX own cc nL rt d q L (.int r :: st) N Rt) : xX own cc nL rt d pc L (.int l3 :: .int l2 :: .int l1 :: .ref l0 :: st) M Rt :=
  x_callV_i (n := 3) (As := [.int l1, .int l2, .int l3]) hd q hq hk_l0 (by decide) rfl rfl w1 kw2_217 kw2_218 kw1_3 kw2_219 (by decide +kernel) rfl hr (by decide) hst _ rfl (cX9_addSaint_ hk_l0 h) k
def FX11_within (Q : Bool → Prop) (l0 : Int32) (l1 : Int32) (l2 : Int32) (M : Mem) : Prop :=
  ((l0 < l1 → Q false) ∧ (¬ l0 < l1 → ((l2 < l0 → Q false) ∧ (¬ l2 < l0 → Q true))))
theorem eX11_within {Q : Bool → Prop} {l0 : Int32} {l1 : Int32} {l2 : Int32} {M : Mem} (h : FX11_within Q l0 l1 l2 M) : xX RX11 cX11_within 3 (some .boolean) 1 0 [(0, .int l0), (1, .int l1), (2, .int l2)] [] M (xQb (xP M Q)) := by
  unfold FX11_within at h
  refine x_iload_n dX11_within_0 rfl 1 rfl ?_
  refine x_iload_n dX11_within_1 rfl 2 rfl ?_
  refine x_icmp_lt dX11_within_2 14 5 rfl rfl (fun hc => ?_) (fun hc => ?_)
  · have h := h.1 hc
    refine x_iconst dX11_within_14 kc_0 15 rfl ?_
    exact x_zret (z := false) dX11_within_15 ⟨rfl, h⟩
  · have h := h.2 hc
    refine x_iload_n dX11_within_5 rfl 6 rfl ?_
    refine x_iload_n dX11_within_6 rfl 7 rfl ?_
    refine x_icmp_gt dX11_within_7 14 10 rfl rfl (fun hc => ?_) (fun hc => ?_)
    · have h := h.1 hc
      refine x_iconst dX11_within_14 kc_0 15 rfl ?_
      exact x_zret (z := false) dX11_within_15 ⟨rfl, h⟩
    · have h := h.2 hc
      refine x_iconst dX11_within_10 kc_1 11 rfl ?_
      refine x_goto dX11_within_11 15 rfl ?_
      exact x_zret (z := true) dX11_within_15 ⟨rfl, h⟩
theorem cX11_within_ {Q : Bool → Prop} {l0 : Int32} {l1 : Int32} {l2 : Int32} {M : Mem} (h : FX11_within Q l0 l1 l2 M) : xM yX11_within cX11_within 3 (some .boolean) 1 [.int l0, .int l1, .int l2] M (xQb (xP M Q)) := xM_of (by decide +kernel) (Nat.le_of_ble_eq_true rfl) (eX11_within h)
theorem kX11_within {own : String} {cc : ByteArray} {nL : Nat} {rt : Option FieldType} {d pc ix : Nat} {L : List (Nat × Value)} {st : List Value} {M : Mem} {Rt : xGt → Array Value → State → Outcome → State → Prop} {Q : Bool → Prop} {l0 : Int32} {l1 : Int32} {l2 : Int32} (hd : decode cc pc = .ok (.invokestatic ix, 3)) (q : Nat) (hq : pc + 3 = q) (w1 : Cond.methodLink own ix yX11_within ∈ xTs) (hr : 1 < d) (hst : (st.map fun v => v.category).sum ≤ 8) (h : FX11_within Q l0 l1 l2 M) (k : ∀ (r : Bool), Q r → xX own cc nL rt d q L (.int (bI r) :: st) M Rt) : xX own cc nL rt d pc L (.int l2 :: .int l1 :: .int l0 :: st) M Rt :=
  x_callS_b (n := 3) (As := [.int l0, .int l1, .int l2]) hd q hq w1 kw2_214 kw1_1 kw2_215 (by decide +kernel) rfl hr (by decide) hst _ rfl (cX11_within_ h) (fun r N hN => by obtain ⟨rfl, hN⟩ := hN; exact k r hN)
theorem kX11_withinn {own : String} {cc : ByteArray} {nL : Nat} {rt : Option FieldType} {d pc ix : Nat} {L : List (Nat × Value)} {st : List Value} {M : Mem} {Rt : xGt → Array Value → State → Outcome → State → Prop} {Q : Bool → Prop} {l0 : Int32} {l1 : Int32} {l2 : Int32} (hd : decode cc pc = .ok (.invokestatic ix, 3)) (q : Nat) (hq : pc + 3 = q) (w1 : Cond.methodLinkNest own ix yX11_within "PillarSaints" ∈ tables_1) (hr : 1 < d) (hst : (st.map fun v => v.category).sum ≤ 8) (h : FX11_within Q l0 l1 l2 M) (k : ∀ (r : Bool), Q r → xX own cc nL rt d q L (.int (bI r) :: st) M Rt) : xX own cc nL rt d pc L (.int l2 :: .int l1 :: .int l0 :: st) M Rt :=
  x_callN_b (n := 3) (As := [.int l0, .int l1, .int l2]) hd q hq w1 kw2_214 kw1_1 kw2_215 (by decide +kernel) rfl hr (by decide) hst _ rfl (cX11_within_ h) (fun r N hN => by obtain ⟨rfl, hN⟩ := hN; exact k r hN)
def NX9_change_109 (Q : Bool → Mem → Prop) (l0 : Nat) (l1 : Int32) (l2 : Int32) (l3 : Int32) (M : Mem) : Prop :=
  ((¬ l1 = 3 → Q false M) ∧ (l1 = 3 → FX11_within (fun (r1 : Bool) => ((r1 = false → Q false M) ∧ (r1 = true → vp_in l2 14 ∧ ∀ M2 : Mem, M2 = xu M (l0 + 7) (ix l2) l3 → Q true M2))) l3 0 99 M))
theorem nX9_change_109 {Q : Bool → Mem → Prop} {l0 : Nat} {l1 : Int32} {l2 : Int32} {l3 : Int32} {M : Mem} (hk_l0 : SHk l0 = 9) (h : NX9_change_109 Q l0 l1 l2 l3 M) : xX RX9 cX9_change 4 (some .boolean) 2 109 [(0, .ref l0), (1, .int l1), (2, .int l2), (3, .int l3)] [] M (xQb Q) := by
  unfold NX9_change_109 at h
  refine x_iload_n dX9_change_109 rfl 110 rfl ?_
  refine x_iconst dX9_change_110 kc_3 111 rfl ?_
  refine x_icmp_ne dX9_change_111 134 114 rfl rfl (fun hc => ?_) (fun hc => ?_)
  · have h := h.1 hc
    refine x_iconst dX9_change_134 kc_0 135 rfl ?_
    exact x_zret (z := false) dX9_change_135 h
  · have h := h.2 hc
    refine x_iload_n dX9_change_114 rfl 115 rfl ?_
    refine x_iconst dX9_change_115 kc_0 116 rfl ?_
    refine x_bipush dX9_change_116 kb_99 118 rfl ?_
    refine kX11_withinn dX9_change_118 121 rfl kn2_232 (Nat.le_of_ble_eq_true rfl) (Nat.le_of_ble_eq_true rfl) h (fun r1 h => ?_)
    refine x_if_eq_b dX9_change_121 134 124 rfl rfl (fun hc => ?_) (fun hc => ?_)
    · have h := h.1 hc
      refine x_iconst dX9_change_134 kc_0 135 rfl ?_
      exact x_zret (z := false) dX9_change_135 h
    · have h := h.2 hc
      refine x_aload_n dX9_change_124 rfl 125 rfl ?_
      refine gf9_7 dX9_change_125 128 rfl hk_l0 kw1_63 ?_
      refine x_iload_n dX9_change_128 rfl 129 rfl ?_
      refine x_iload_n dX9_change_129 rfl 130 rfl ?_
      obtain ⟨hin, h⟩ := h
      refine x_iastore dX9_change_130 (ly9_7 hk_l0) hin 131 rfl (x_mem (fun M2 hM2 => ?_))
      have h := h M2 hM2
      refine x_goto dX9_change_131 136 rfl ?_
      refine x_iconst dX9_change_136 kc_1 137 rfl ?_
      exact x_zret (z := true) dX9_change_137 h
def NX9_change_83 (Q : Bool → Mem → Prop) (l0 : Nat) (l1 : Int32) (l2 : Int32) (l3 : Int32) (M : Mem) : Prop :=
  ((¬ l1 = 2 → NX9_change_109 Q l0 l1 l2 l3 M) ∧ (l1 = 2 → FX11_within (fun (r3 : Bool) => ((r3 = false → NX9_change_109 Q l0 l1 l2 l3 M) ∧ (r3 = true → vp_in l2 14 ∧ ∀ M4 : Mem, M4 = xu M (l0 + 6) (ix l2) l3 → Q true M4))) l3 (-99) 99 M))
theorem nX9_change_83 {Q : Bool → Mem → Prop} {l0 : Nat} {l1 : Int32} {l2 : Int32} {l3 : Int32} {M : Mem} (hk_l0 : SHk l0 = 9) (h : NX9_change_83 Q l0 l1 l2 l3 M) : xX RX9 cX9_change 4 (some .boolean) 2 83 [(0, .ref l0), (1, .int l1), (2, .int l2), (3, .int l3)] [] M (xQb Q) := by
  unfold NX9_change_83 at h
  refine x_iload_n dX9_change_83 rfl 84 rfl ?_
  refine x_iconst dX9_change_84 kc_2 85 rfl ?_
  refine x_icmp_ne dX9_change_85 109 88 rfl rfl (fun hc => ?_) (fun hc => ?_)
  · have h := h.1 hc
    exact nX9_change_109 hk_l0 h
  · have h := h.2 hc
    refine x_iload_n dX9_change_88 rfl 89 rfl ?_
    refine x_bipush dX9_change_89 kb_m99 91 rfl ?_
    refine x_bipush dX9_change_91 kb_99 93 rfl ?_
    refine kX11_withinn dX9_change_93 96 rfl kn2_232 (Nat.le_of_ble_eq_true rfl) (Nat.le_of_ble_eq_true rfl) h (fun r3 h => ?_)
    refine x_if_eq_b dX9_change_96 109 99 rfl rfl (fun hc => ?_) (fun hc => ?_)
    · have h := h.1 hc
      exact nX9_change_109 hk_l0 h
    · have h := h.2 hc
      refine x_aload_n dX9_change_99 rfl 100 rfl ?_
      refine gf9_6 dX9_change_100 103 rfl hk_l0 kw1_60 ?_
      refine x_iload_n dX9_change_103 rfl 104 rfl ?_
      refine x_iload_n dX9_change_104 rfl 105 rfl ?_
      obtain ⟨hin, h⟩ := h
      refine x_iastore dX9_change_105 (ly9_6 hk_l0) hin 106 rfl (x_mem (fun M4 hM4 => ?_))
      have h := h M4 hM4
      refine x_goto dX9_change_106 136 rfl ?_
      refine x_iconst dX9_change_136 kc_1 137 rfl ?_
      exact x_zret (z := true) dX9_change_137 h
def NX9_change_58 (Q : Bool → Mem → Prop) (l0 : Nat) (l1 : Int32) (l2 : Int32) (l3 : Int32) (M : Mem) : Prop :=
  ((¬ l1 = 1 → NX9_change_83 Q l0 l1 l2 l3 M) ∧ (l1 = 1 → FX11_within (fun (r5 : Bool) => ((r5 = false → NX9_change_83 Q l0 l1 l2 l3 M) ∧ (r5 = true → vp_in l2 14 ∧ ∀ M6 : Mem, M6 = xu M (l0 + 5) (ix l2) l3 → Q true M6))) l3 0 9 M))
theorem nX9_change_58 {Q : Bool → Mem → Prop} {l0 : Nat} {l1 : Int32} {l2 : Int32} {l3 : Int32} {M : Mem} (hk_l0 : SHk l0 = 9) (h : NX9_change_58 Q l0 l1 l2 l3 M) : xX RX9 cX9_change 4 (some .boolean) 2 58 [(0, .ref l0), (1, .int l1), (2, .int l2), (3, .int l3)] [] M (xQb Q) := by
  unfold NX9_change_58 at h
  refine x_iload_n dX9_change_58 rfl 59 rfl ?_
  refine x_iconst dX9_change_59 kc_1 60 rfl ?_
  refine x_icmp_ne dX9_change_60 83 63 rfl rfl (fun hc => ?_) (fun hc => ?_)
  · have h := h.1 hc
    exact nX9_change_83 hk_l0 h
  · have h := h.2 hc
    refine x_iload_n dX9_change_63 rfl 64 rfl ?_
    refine x_iconst dX9_change_64 kc_0 65 rfl ?_
    refine x_bipush dX9_change_65 kb_9 67 rfl ?_
    refine kX11_withinn dX9_change_67 70 rfl kn2_232 (Nat.le_of_ble_eq_true rfl) (Nat.le_of_ble_eq_true rfl) h (fun r5 h => ?_)
    refine x_if_eq_b dX9_change_70 83 73 rfl rfl (fun hc => ?_) (fun hc => ?_)
    · have h := h.1 hc
      exact nX9_change_83 hk_l0 h
    · have h := h.2 hc
      refine x_aload_n dX9_change_73 rfl 74 rfl ?_
      refine gf9_5 dX9_change_74 77 rfl hk_l0 kw1_58 ?_
      refine x_iload_n dX9_change_77 rfl 78 rfl ?_
      refine x_iload_n dX9_change_78 rfl 79 rfl ?_
      obtain ⟨hin, h⟩ := h
      refine x_iastore dX9_change_79 (ly9_5 hk_l0) hin 80 rfl (x_mem (fun M6 hM6 => ?_))
      have h := h M6 hM6
      refine x_goto dX9_change_80 136 rfl ?_
      refine x_iconst dX9_change_136 kc_1 137 rfl ?_
      exact x_zret (z := true) dX9_change_137 h
def FX9_change (Q : Bool → Mem → Prop) (l0 : Nat) (l1 : Int32) (l2 : Int32) (l3 : Int32) (M : Mem) : Prop :=
  ((¬ l1 = 4 → FX9_isSaint (fun (r7 : Bool) => ((r7 = true → ((¬ l1 = 0 → NX9_change_58 Q l0 l1 l2 l3 M) ∧ (l1 = 0 → FX11_within (fun (r8 : Bool) => ((r8 = false → NX9_change_58 Q l0 l1 l2 l3 M) ∧ (r8 = true → vp_in l2 14 ∧ ∀ M9 : Mem, M9 = xu M (l0 + 4) (ix l2) l3 → Q true M9))) l3 0 120 M))) ∧ (r7 = false → Q false M))) l0 l2 M) ∧ (l1 = 4 → FX11_within (fun (r10 : Bool) => ((r10 = true → ∀ M11 : Mem, M11 = xu M l0 14 l3 → Q true M11) ∧ (r10 = false → Q false M))) l3 0 9 M))
theorem eX9_change {Q : Bool → Mem → Prop} {l0 : Nat} {l1 : Int32} {l2 : Int32} {l3 : Int32} {M : Mem} (hk_l0 : SHk l0 = 9) (h : FX9_change Q l0 l1 l2 l3 M) : xX RX9 cX9_change 4 (some .boolean) 2 0 [(0, .ref l0), (1, .int l1), (2, .int l2), (3, .int l3)] [] M (xQb Q) := by
  unfold FX9_change at h
  refine x_iload_n dX9_change_0 rfl 1 rfl ?_
  refine x_iconst dX9_change_1 kc_4 2 rfl ?_
  refine x_icmp_ne dX9_change_2 24 5 rfl rfl (fun hc => ?_) (fun hc => ?_)
  · have h := h.1 hc
    refine x_aload_n dX9_change_24 rfl 25 rfl ?_
    refine x_iload_n dX9_change_25 rfl 26 rfl ?_
    refine kX9_isSaint dX9_change_26 29 rfl hk_l0 kw2_233 (Nat.le_of_ble_eq_true rfl) (Nat.le_of_ble_eq_true rfl) h (fun r7 h => ?_)
    refine x_if_ne_b dX9_change_29 34 32 rfl rfl (fun hc => ?_) (fun hc => ?_)
    · have h := h.1 hc
      refine x_iload_n dX9_change_34 rfl 35 rfl ?_
      refine x_if_ne dX9_change_35 58 38 rfl rfl (fun hc => ?_) (fun hc => ?_)
      · have h := h.1 hc
        exact nX9_change_58 hk_l0 h
      · have h := h.2 hc
        refine x_iload_n dX9_change_38 rfl 39 rfl ?_
        refine x_iconst dX9_change_39 kc_0 40 rfl ?_
        refine x_bipush dX9_change_40 kb_120 42 rfl ?_
        refine kX11_withinn dX9_change_42 45 rfl kn2_232 (Nat.le_of_ble_eq_true rfl) (Nat.le_of_ble_eq_true rfl) h (fun r8 h => ?_)
        refine x_if_eq_b dX9_change_45 58 48 rfl rfl (fun hc => ?_) (fun hc => ?_)
        · have h := h.1 hc
          exact nX9_change_58 hk_l0 h
        · have h := h.2 hc
          refine x_aload_n dX9_change_48 rfl 49 rfl ?_
          refine gf9_4 dX9_change_49 52 rfl hk_l0 kw1_55 ?_
          refine x_iload_n dX9_change_52 rfl 53 rfl ?_
          refine x_iload_n dX9_change_53 rfl 54 rfl ?_
          obtain ⟨hin, h⟩ := h
          refine x_iastore dX9_change_54 (ly9_4 hk_l0) hin 55 rfl (x_mem (fun M9 hM9 => ?_))
          have h := h M9 hM9
          refine x_goto dX9_change_55 136 rfl ?_
          refine x_iconst dX9_change_136 kc_1 137 rfl ?_
          exact x_zret (z := true) dX9_change_137 h
    · have h := h.2 hc
      refine x_iconst dX9_change_32 kc_0 33 rfl ?_
      exact x_zret (z := false) dX9_change_33 h
  · have h := h.2 hc
    refine x_iload_n dX9_change_5 rfl 6 rfl ?_
    refine x_iconst dX9_change_6 kc_0 7 rfl ?_
    refine x_bipush dX9_change_7 kb_9 9 rfl ?_
    refine kX11_withinn dX9_change_9 12 rfl kn2_232 (Nat.le_of_ble_eq_true rfl) (Nat.le_of_ble_eq_true rfl) h (fun r10 h => ?_)
    refine x_if_ne_b dX9_change_12 17 15 rfl rfl (fun hc => ?_) (fun hc => ?_)
    · have h := h.1 hc
      refine x_aload_n dX9_change_17 rfl 18 rfl ?_
      refine x_iload_n dX9_change_18 rfl 19 rfl ?_
      refine pf9_14 dX9_change_19 22 rfl hk_l0 kw1_82 (x_mem (fun M11 hM11 => ?_))
      have h := h M11 hM11
      refine x_iconst dX9_change_22 kc_1 23 rfl ?_
      exact x_zret (z := true) dX9_change_23 h
    · have h := h.2 hc
      refine x_iconst dX9_change_15 kc_0 16 rfl ?_
      exact x_zret (z := false) dX9_change_16 h
theorem cX9_change_ {Q : Bool → Mem → Prop} {l0 : Nat} {l1 : Int32} {l2 : Int32} {l3 : Int32} {M : Mem} (hk_l0 : SHk l0 = 9) (h : FX9_change Q l0 l1 l2 l3 M) : xM yX9_change cX9_change 4 (some .boolean) 2 [.ref l0, .int l1, .int l2, .int l3] M (xQb Q) := xM_of (by decide +kernel) (Nat.le_of_ble_eq_true rfl) (eX9_change hk_l0 h)
theorem kX9_change {own : String} {cc : ByteArray} {nL : Nat} {rt : Option FieldType} {d pc ix : Nat} {L : List (Nat × Value)} {st : List Value} {M : Mem} {Rt : xGt → Array Value → State → Outcome → State → Prop} {Q : Bool → Mem → Prop} {l0 : Nat} {l1 : Int32} {l2 : Int32} {l3 : Int32} (hd : decode cc pc = .ok (.invokevirtual ix, 3)) (q : Nat) (hq : pc + 3 = q) (hk_l0 : SHk l0 = 9) (w1 : Cond.methodLink own ix yX9_change ∈ xTs) (hr : 2 < d) (hst : (st.map fun v => v.category).sum ≤ 8) (h : FX9_change Q l0 l1 l2 l3 M) (k : ∀ (r : Bool) (N : Mem), Q r N → xX own cc nL rt d q L (.int (bI r) :: st) N Rt) : xX own cc nL rt d pc L (.int l3 :: .int l2 :: .int l1 :: .ref l0 :: st) M Rt :=
  x_callV_b (n := 3) (As := [.int l1, .int l2, .int l3]) hd q hq hk_l0 (by decide) rfl rfl w1 kw2_229 kw2_230 kw1_3 kw2_231 (by decide +kernel) rfl hr (by decide) hst _ rfl (cX9_change_ hk_l0 h) k
def FX9_canDo (Q : Bool → Prop) (l0 : Nat) (l1 : Int32) (l2 : Int32) (l3 : Int32) (M : Mem) : Prop :=
  ((l1 = 0 → FX11_within (fun (r1 : Bool) => Q r1) l3 1 999 M) ∧ (l1 = 1 → FX11_within (fun (r2 : Bool) => ((r2 = false → Q false) ∧ (r2 = true → FX9_highest (fun (r3 : Int32) => ((r3 = (-1) → Q false) ∧ (¬ r3 = (-1) → Q true))) l0 M))) l3 (-99) 99 M) ∧ (l1 = 2 → FX9_pillarOf (fun (r4 : Int32) => ((r4 = (-1) → Q false) ∧ (¬ r4 = (-1) → Q true))) l0 l2 M) ∧ (l1 = 3 → FX9_isPillar (fun (r5 : Bool) => ((r5 = false → Q false) ∧ (r5 = true → FX11_within (fun (r6 : Bool) => ((r6 = false → Q false) ∧ (r6 = true → Q true))) l3 1 99 M))) l0 l2 M) ∧ (¬ l1 = 0 → ¬ l1 = 1 → ¬ l1 = 2 → ¬ l1 = 3 → Q false))
theorem eX9_canDo {Q : Bool → Prop} {l0 : Nat} {l1 : Int32} {l2 : Int32} {l3 : Int32} {M : Mem} (hk_l0 : SHk l0 = 9) (h : FX9_canDo Q l0 l1 l2 l3 M) : xX RX9 cX9_canDo 4 (some .boolean) 2 0 [(0, .ref l0), (1, .int l1), (2, .int l2), (3, .int l3)] [] M (xQb (xP M Q)) := by
  unfold FX9_canDo at h
  refine x_iload_n dX9_canDo_0 rfl 1 rfl ?_
  by_cases hc0 : l1 = 0
  · refine x_tab_at dX9_canDo_1 hc0 (by decide) (by decide) rfl (tg := 32) rfl ?_
    have h := h.1 hc0
    refine x_iload_n dX9_canDo_32 rfl 33 rfl ?_
    refine x_iconst dX9_canDo_33 kc_1 34 rfl ?_
    refine x_sipush dX9_canDo_34 kh_999 37 rfl ?_
    refine kX11_withinn dX9_canDo_37 40 rfl kn2_232 (Nat.le_of_ble_eq_true rfl) (Nat.le_of_ble_eq_true rfl) h (fun r1 h => ?_)
    exact x_zret dX9_canDo_40 ⟨rfl, h⟩
  by_cases hc1 : l1 = 1
  · refine x_tab_at dX9_canDo_1 hc1 (by decide) (by decide) rfl (tg := 41) rfl ?_
    have h := h.2.1 hc1
    refine x_iload_n dX9_canDo_41 rfl 42 rfl ?_
    refine x_bipush dX9_canDo_42 kb_m99 44 rfl ?_
    refine x_bipush dX9_canDo_44 kb_99 46 rfl ?_
    refine kX11_withinn dX9_canDo_46 49 rfl kn2_232 (Nat.le_of_ble_eq_true rfl) (Nat.le_of_ble_eq_true rfl) h (fun r2 h => ?_)
    refine x_if_eq_b dX9_canDo_49 64 52 rfl rfl (fun hc => ?_) (fun hc => ?_)
    · have h := h.1 hc
      refine x_iconst dX9_canDo_64 kc_0 65 rfl ?_
      exact x_zret (z := false) dX9_canDo_65 ⟨rfl, h⟩
    · have h := h.2 hc
      refine x_aload_n dX9_canDo_52 rfl 53 rfl ?_
      refine kX9_highest dX9_canDo_53 56 rfl hk_l0 kw3_5 (Nat.le_of_ble_eq_true rfl) (Nat.le_of_ble_eq_true rfl) h (fun r3 h => ?_)
      refine x_iconst dX9_canDo_56 kc_m1 57 rfl ?_
      refine x_icmp_eq dX9_canDo_57 64 60 rfl rfl (fun hc => ?_) (fun hc => ?_)
      · have h := h.1 hc
        refine x_iconst dX9_canDo_64 kc_0 65 rfl ?_
        exact x_zret (z := false) dX9_canDo_65 ⟨rfl, h⟩
      · have h := h.2 hc
        refine x_iconst dX9_canDo_60 kc_1 61 rfl ?_
        refine x_goto dX9_canDo_61 65 rfl ?_
        exact x_zret (z := true) dX9_canDo_65 ⟨rfl, h⟩
  by_cases hc2 : l1 = 2
  · refine x_tab_at dX9_canDo_1 hc2 (by decide) (by decide) rfl (tg := 66) rfl ?_
    have h := h.2.2.1 hc2
    refine x_aload_n dX9_canDo_66 rfl 67 rfl ?_
    refine x_iload_n dX9_canDo_67 rfl 68 rfl ?_
    refine kX9_pillarOf dX9_canDo_68 71 rfl hk_l0 kw3_9 (Nat.le_of_ble_eq_true rfl) (Nat.le_of_ble_eq_true rfl) h (fun r4 h => ?_)
    refine x_iconst dX9_canDo_71 kc_m1 72 rfl ?_
    refine x_icmp_eq dX9_canDo_72 79 75 rfl rfl (fun hc => ?_) (fun hc => ?_)
    · have h := h.1 hc
      refine x_iconst dX9_canDo_79 kc_0 80 rfl ?_
      exact x_zret (z := false) dX9_canDo_80 ⟨rfl, h⟩
    · have h := h.2 hc
      refine x_iconst dX9_canDo_75 kc_1 76 rfl ?_
      refine x_goto dX9_canDo_76 80 rfl ?_
      exact x_zret (z := true) dX9_canDo_80 ⟨rfl, h⟩
  by_cases hc3 : l1 = 3
  · refine x_tab_at dX9_canDo_1 hc3 (by decide) (by decide) rfl (tg := 81) rfl ?_
    have h := h.2.2.2.1 hc3
    refine x_aload_n dX9_canDo_81 rfl 82 rfl ?_
    refine x_iload_n dX9_canDo_82 rfl 83 rfl ?_
    refine kX9_isPillar dX9_canDo_83 86 rfl hk_l0 kw3_13 (Nat.le_of_ble_eq_true rfl) (Nat.le_of_ble_eq_true rfl) h (fun r5 h => ?_)
    refine x_if_eq_b dX9_canDo_86 103 89 rfl rfl (fun hc => ?_) (fun hc => ?_)
    · have h := h.1 hc
      refine x_iconst dX9_canDo_103 kc_0 104 rfl ?_
      exact x_zret (z := false) dX9_canDo_104 ⟨rfl, h⟩
    · have h := h.2 hc
      refine x_iload_n dX9_canDo_89 rfl 90 rfl ?_
      refine x_iconst dX9_canDo_90 kc_1 91 rfl ?_
      refine x_bipush dX9_canDo_91 kb_99 93 rfl ?_
      refine kX11_withinn dX9_canDo_93 96 rfl kn2_232 (Nat.le_of_ble_eq_true rfl) (Nat.le_of_ble_eq_true rfl) h (fun r6 h => ?_)
      refine x_if_eq_b dX9_canDo_96 103 99 rfl rfl (fun hc => ?_) (fun hc => ?_)
      · have h := h.1 hc
        refine x_iconst dX9_canDo_103 kc_0 104 rfl ?_
        exact x_zret (z := false) dX9_canDo_104 ⟨rfl, h⟩
      · have h := h.2 hc
        refine x_iconst dX9_canDo_99 kc_1 100 rfl ?_
        refine x_goto dX9_canDo_100 104 rfl ?_
        exact x_zret (z := true) dX9_canDo_104 ⟨rfl, h⟩
  have h := h.2.2.2.2 hc0 hc1 hc2 hc3
  refine x_tab_out dX9_canDo_1 (by have a0 := lv_neT hc0 (a := 0) (by decide); have a1 := lv_neT hc1 (a := 1) (by decide); have a2 := lv_neT hc2 (a := 2) (by decide); have a3 := lv_neT hc3 (a := 3) (by decide); show (l1 : Int32).toInt < 0 ∨ 3 < (l1 : Int32).toInt; omega) (tg := 105) rfl ?_
  refine x_iconst dX9_canDo_105 kc_0 106 rfl ?_
  exact x_zret (z := false) dX9_canDo_106 ⟨rfl, h⟩
theorem cX9_canDo_ {Q : Bool → Prop} {l0 : Nat} {l1 : Int32} {l2 : Int32} {l3 : Int32} {M : Mem} (hk_l0 : SHk l0 = 9) (h : FX9_canDo Q l0 l1 l2 l3 M) : xM yX9_canDo cX9_canDo 4 (some .boolean) 2 [.ref l0, .int l1, .int l2, .int l3] M (xQb (xP M Q)) := xM_of (by decide +kernel) (Nat.le_of_ble_eq_true rfl) (eX9_canDo hk_l0 h)
theorem kX9_canDo {own : String} {cc : ByteArray} {nL : Nat} {rt : Option FieldType} {d pc ix : Nat} {L : List (Nat × Value)} {st : List Value} {M : Mem} {Rt : xGt → Array Value → State → Outcome → State → Prop} {Q : Bool → Prop} {l0 : Nat} {l1 : Int32} {l2 : Int32} {l3 : Int32} (hd : decode cc pc = .ok (.invokevirtual ix, 3)) (q : Nat) (hq : pc + 3 = q) (hk_l0 : SHk l0 = 9) (w1 : Cond.methodLink own ix yX9_canDo ∈ xTs) (hr : 2 < d) (hst : (st.map fun v => v.category).sum ≤ 8) (h : FX9_canDo Q l0 l1 l2 l3 M) (k : ∀ (r : Bool), Q r → xX own cc nL rt d q L (.int (bI r) :: st) M Rt) : xX own cc nL rt d pc L (.int l3 :: .int l2 :: .int l1 :: .ref l0 :: st) M Rt :=
  x_callV_b (n := 3) (As := [.int l1, .int l2, .int l3]) hd q hq hk_l0 (by decide) rfl rfl w1 kw3_2 kw3_3 kw1_3 kw3_4 (by decide +kernel) rfl hr (by decide) hst _ rfl (cX9_canDo_ hk_l0 h) (fun r N hN => by obtain ⟨rfl, hN⟩ := hN; exact k r hN)
def FX9_cell (Q : Int32 → Prop) (l0 : Nat) (l1 : Int32) (l2 : Int32) (M : Mem) : Prop :=
  ((((l1 * 4) + l2) < 0 → Q (-100)) ∧ (¬ ((l1 * 4) + l2) < 0 → (((Int32.ofNat (SHn (l0 + 9))) ≤ ((l1 * 4) + l2) → Q (-100)) ∧ (¬ (Int32.ofNat (SHn (l0 + 9))) ≤ ((l1 * 4) + l2) → vp_in ((l1 * 4) + l2) (SHn (l0 + 9)) ∧ Q (M (l0 + 9) (ix ((l1 * 4) + l2)))))))
theorem eX9_cell {Q : Int32 → Prop} {l0 : Nat} {l1 : Int32} {l2 : Int32} {M : Mem} (hk_l0 : SHk l0 = 9) (h : FX9_cell Q l0 l1 l2 M) : xX RX9 cX9_cell 4 (some .int) 1 0 [(0, .ref l0), (1, .int l1), (2, .int l2)] [] M (xQi (xP M Q)) := by
  unfold FX9_cell at h
  refine x_iload_n dX9_cell_0 rfl 1 rfl ?_
  refine x_iconst dX9_cell_1 kc_4 2 rfl ?_
  refine x_imul dX9_cell_2 3 rfl ?_
  refine x_iload_n dX9_cell_3 rfl 4 rfl ?_
  refine x_iadd dX9_cell_4 5 rfl ?_
  refine x_istore_n dX9_cell_5 (Nat.le_of_ble_eq_true rfl) [(0, .ref l0), (1, .int l1), (2, .int l2), (3, .int ((l1 * 4) + l2))] rfl 6 rfl ?_
  refine x_iload_n dX9_cell_6 rfl 7 rfl ?_
  refine x_if_lt dX9_cell_7 28 10 rfl rfl (fun hc => ?_) (fun hc => ?_)
  · have h := h.1 hc
    refine x_bipush dX9_cell_28 kb_m100 30 rfl ?_
    exact x_iret dX9_cell_30 ⟨rfl, h⟩
  · have h := h.2 hc
    refine x_iload_n dX9_cell_10 rfl 11 rfl ?_
    refine x_aload_n dX9_cell_11 rfl 12 rfl ?_
    refine gf9_0 dX9_cell_12 15 rfl hk_l0 kw1_45 ?_
    refine x_alen (n := Int32.ofNat (SHn (l0 + 9))) dX9_cell_15 ⟨ly9_0 hk_l0, rfl⟩ rfl 16 rfl ?_
    refine x_icmp_ge dX9_cell_16 28 19 rfl rfl (fun hc => ?_) (fun hc => ?_)
    · have h := h.1 hc
      refine x_bipush dX9_cell_28 kb_m100 30 rfl ?_
      exact x_iret dX9_cell_30 ⟨rfl, h⟩
    · have h := h.2 hc
      refine x_aload_n dX9_cell_19 rfl 20 rfl ?_
      refine gf9_0 dX9_cell_20 23 rfl hk_l0 kw1_45 ?_
      refine x_iload_n dX9_cell_23 rfl 24 rfl ?_
      obtain ⟨hin, h⟩ := h
      refine x_iaload dX9_cell_24 ⟨ly9_0 hk_l0, rfl⟩ hin 25 rfl ?_
      refine x_goto dX9_cell_25 30 rfl ?_
      exact x_iret dX9_cell_30 ⟨rfl, h⟩
theorem cX9_cell_ {Q : Int32 → Prop} {l0 : Nat} {l1 : Int32} {l2 : Int32} {M : Mem} (hk_l0 : SHk l0 = 9) (h : FX9_cell Q l0 l1 l2 M) : xM yX9_cell cX9_cell 4 (some .int) 1 [.ref l0, .int l1, .int l2] M (xQi (xP M Q)) := xM_of (by decide +kernel) (Nat.le_of_ble_eq_true rfl) (eX9_cell hk_l0 h)
theorem kX9_cell {own : String} {cc : ByteArray} {nL : Nat} {rt : Option FieldType} {d pc ix : Nat} {L : List (Nat × Value)} {st : List Value} {M : Mem} {Rt : xGt → Array Value → State → Outcome → State → Prop} {Q : Int32 → Prop} {l0 : Nat} {l1 : Int32} {l2 : Int32} (hd : decode cc pc = .ok (.invokevirtual ix, 3)) (q : Nat) (hq : pc + 3 = q) (hk_l0 : SHk l0 = 9) (w1 : Cond.methodLink own ix yX9_cell ∈ xTs) (hr : 1 < d) (hst : (st.map fun v => v.category).sum ≤ 8) (h : FX9_cell Q l0 l1 l2 M) (k : ∀ (r : Int32), Q r → xX own cc nL rt d q L (.int r :: st) M Rt) : xX own cc nL rt d pc L (.int l2 :: .int l1 :: .ref l0 :: st) M Rt :=
  x_callV_i (n := 2) (As := [.int l1, .int l2]) hd q hq hk_l0 (by decide) rfl rfl w1 kw4_181 kw4_182 kw1_3 kw4_183 (by decide +kernel) rfl hr (by decide) hst _ rfl (cX9_cell_ hk_l0 h) (fun r N hN => by obtain ⟨rfl, hN⟩ := hN; exact k r hN)
def FX9_ofSaint (Q : Int32 → Prop) (l0 : Nat) (l1 : Int32) (l2 : Int32) (M : Mem) : Prop :=
  FX9_isSaint (fun (r1 : Bool) => ((r1 = true → ((l2 = 0 → vp_in l1 14 ∧ Q (M (l0 + 4) (ix l1))) ∧ (l2 = 1 → vp_in l1 14 ∧ Q (M (l0 + 5) (ix l1))) ∧ (l2 = 2 → vp_in l1 14 ∧ Q (M (l0 + 6) (ix l1))) ∧ (l2 = 3 → vp_in l1 14 ∧ Q (M (l0 + 7) (ix l1))) ∧ (l2 = 4 → FX9_isDead (fun (r2 : Bool) => ((r2 = false → Q 0) ∧ (r2 = true → Q 1))) l0 l1 M) ∧ (l2 = 5 → FX9_pillarOf (fun (r3 : Int32) => Q r3) l0 l1 M) ∧ (l2 = 6 → FX9_aheadOnGround (fun (r4 : Int32) => Q r4) l0 l1 M) ∧ (¬ l2 = 0 → ¬ l2 = 1 → ¬ l2 = 2 → ¬ l2 = 3 → ¬ l2 = 4 → ¬ l2 = 5 → ¬ l2 = 6 → Q (-100)))) ∧ (r1 = false → Q (-100)))) l0 l1 M
theorem eX9_ofSaint {Q : Int32 → Prop} {l0 : Nat} {l1 : Int32} {l2 : Int32} {M : Mem} (hk_l0 : SHk l0 = 9) (h : FX9_ofSaint Q l0 l1 l2 M) : xX RX9 cX9_ofSaint 3 (some .int) 2 0 [(0, .ref l0), (1, .int l1), (2, .int l2)] [] M (xQi (xP M Q)) := by
  unfold FX9_ofSaint at h
  refine x_aload_n dX9_ofSaint_0 rfl 1 rfl ?_
  refine x_iload_n dX9_ofSaint_1 rfl 2 rfl ?_
  refine kX9_isSaint dX9_ofSaint_2 5 rfl hk_l0 kw2_233 (Nat.le_of_ble_eq_true rfl) (Nat.le_of_ble_eq_true rfl) h (fun r1 h => ?_)
  refine x_if_ne_b dX9_ofSaint_5 11 8 rfl rfl (fun hc => ?_) (fun hc => ?_)
  · have h := h.1 hc
    refine x_iload_n dX9_ofSaint_11 rfl 12 rfl ?_
    by_cases hc0 : l2 = 0
    · refine x_tab_at dX9_ofSaint_12 hc0 (by decide) (by decide) rfl (tg := 56) rfl ?_
      have h := h.1 hc0
      refine x_aload_n dX9_ofSaint_56 rfl 57 rfl ?_
      refine gf9_4 dX9_ofSaint_57 60 rfl hk_l0 kw1_55 ?_
      refine x_iload_n dX9_ofSaint_60 rfl 61 rfl ?_
      obtain ⟨hin, h⟩ := h
      refine x_iaload dX9_ofSaint_61 (ly9_4 hk_l0) hin 62 rfl ?_
      exact x_iret dX9_ofSaint_62 ⟨rfl, h⟩
    by_cases hc1 : l2 = 1
    · refine x_tab_at dX9_ofSaint_12 hc1 (by decide) (by decide) rfl (tg := 63) rfl ?_
      have h := h.2.1 hc1
      refine x_aload_n dX9_ofSaint_63 rfl 64 rfl ?_
      refine gf9_5 dX9_ofSaint_64 67 rfl hk_l0 kw1_58 ?_
      refine x_iload_n dX9_ofSaint_67 rfl 68 rfl ?_
      obtain ⟨hin, h⟩ := h
      refine x_iaload dX9_ofSaint_68 (ly9_5 hk_l0) hin 69 rfl ?_
      exact x_iret dX9_ofSaint_69 ⟨rfl, h⟩
    by_cases hc2 : l2 = 2
    · refine x_tab_at dX9_ofSaint_12 hc2 (by decide) (by decide) rfl (tg := 70) rfl ?_
      have h := h.2.2.1 hc2
      refine x_aload_n dX9_ofSaint_70 rfl 71 rfl ?_
      refine gf9_6 dX9_ofSaint_71 74 rfl hk_l0 kw1_60 ?_
      refine x_iload_n dX9_ofSaint_74 rfl 75 rfl ?_
      obtain ⟨hin, h⟩ := h
      refine x_iaload dX9_ofSaint_75 (ly9_6 hk_l0) hin 76 rfl ?_
      exact x_iret dX9_ofSaint_76 ⟨rfl, h⟩
    by_cases hc3 : l2 = 3
    · refine x_tab_at dX9_ofSaint_12 hc3 (by decide) (by decide) rfl (tg := 77) rfl ?_
      have h := h.2.2.2.1 hc3
      refine x_aload_n dX9_ofSaint_77 rfl 78 rfl ?_
      refine gf9_7 dX9_ofSaint_78 81 rfl hk_l0 kw1_63 ?_
      refine x_iload_n dX9_ofSaint_81 rfl 82 rfl ?_
      obtain ⟨hin, h⟩ := h
      refine x_iaload dX9_ofSaint_82 (ly9_7 hk_l0) hin 83 rfl ?_
      exact x_iret dX9_ofSaint_83 ⟨rfl, h⟩
    by_cases hc4 : l2 = 4
    · refine x_tab_at dX9_ofSaint_12 hc4 (by decide) (by decide) rfl (tg := 84) rfl ?_
      have h := h.2.2.2.2.1 hc4
      refine x_aload_n dX9_ofSaint_84 rfl 85 rfl ?_
      refine x_iload_n dX9_ofSaint_85 rfl 86 rfl ?_
      refine kX9_isDead dX9_ofSaint_86 89 rfl hk_l0 kw3_71 (Nat.le_of_ble_eq_true rfl) (Nat.le_of_ble_eq_true rfl) h (fun r2 h => ?_)
      refine x_if_eq_b dX9_ofSaint_89 96 92 rfl rfl (fun hc => ?_) (fun hc => ?_)
      · have h := h.1 hc
        refine x_iconst dX9_ofSaint_96 kc_0 97 rfl ?_
        exact x_iret dX9_ofSaint_97 ⟨rfl, h⟩
      · have h := h.2 hc
        refine x_iconst dX9_ofSaint_92 kc_1 93 rfl ?_
        refine x_goto dX9_ofSaint_93 97 rfl ?_
        exact x_iret dX9_ofSaint_97 ⟨rfl, h⟩
    by_cases hc5 : l2 = 5
    · refine x_tab_at dX9_ofSaint_12 hc5 (by decide) (by decide) rfl (tg := 98) rfl ?_
      have h := h.2.2.2.2.2.1 hc5
      refine x_aload_n dX9_ofSaint_98 rfl 99 rfl ?_
      refine x_iload_n dX9_ofSaint_99 rfl 100 rfl ?_
      refine kX9_pillarOf dX9_ofSaint_100 103 rfl hk_l0 kw3_9 (Nat.le_of_ble_eq_true rfl) (Nat.le_of_ble_eq_true rfl) h (fun r3 h => ?_)
      exact x_iret dX9_ofSaint_103 ⟨rfl, h⟩
    by_cases hc6 : l2 = 6
    · refine x_tab_at dX9_ofSaint_12 hc6 (by decide) (by decide) rfl (tg := 104) rfl ?_
      have h := h.2.2.2.2.2.2.1 hc6
      refine x_aload_n dX9_ofSaint_104 rfl 105 rfl ?_
      refine x_iload_n dX9_ofSaint_105 rfl 106 rfl ?_
      refine kX9_aheadOnGround dX9_ofSaint_106 109 rfl hk_l0 kw3_164 (Nat.le_of_ble_eq_true rfl) (Nat.le_of_ble_eq_true rfl) h (fun r4 h => ?_)
      exact x_iret dX9_ofSaint_109 ⟨rfl, h⟩
    have h := h.2.2.2.2.2.2.2 hc0 hc1 hc2 hc3 hc4 hc5 hc6
    refine x_tab_out dX9_ofSaint_12 (by have a0 := lv_neT hc0 (a := 0) (by decide); have a1 := lv_neT hc1 (a := 1) (by decide); have a2 := lv_neT hc2 (a := 2) (by decide); have a3 := lv_neT hc3 (a := 3) (by decide); have a4 := lv_neT hc4 (a := 4) (by decide); have a5 := lv_neT hc5 (a := 5) (by decide); have a6 := lv_neT hc6 (a := 6) (by decide); show (l2 : Int32).toInt < 0 ∨ 6 < (l2 : Int32).toInt; omega) (tg := 110) rfl ?_
    refine x_bipush dX9_ofSaint_110 kb_m100 112 rfl ?_
    exact x_iret dX9_ofSaint_112 ⟨rfl, h⟩
  · have h := h.2 hc
    refine x_bipush dX9_ofSaint_8 kb_m100 10 rfl ?_
    exact x_iret dX9_ofSaint_10 ⟨rfl, h⟩
theorem cX9_ofSaint_ {Q : Int32 → Prop} {l0 : Nat} {l1 : Int32} {l2 : Int32} {M : Mem} (hk_l0 : SHk l0 = 9) (h : FX9_ofSaint Q l0 l1 l2 M) : xM yX9_ofSaint cX9_ofSaint 3 (some .int) 2 [.ref l0, .int l1, .int l2] M (xQi (xP M Q)) := xM_of (by decide +kernel) (Nat.le_of_ble_eq_true rfl) (eX9_ofSaint hk_l0 h)
theorem kX9_ofSaint {own : String} {cc : ByteArray} {nL : Nat} {rt : Option FieldType} {d pc ix : Nat} {L : List (Nat × Value)} {st : List Value} {M : Mem} {Rt : xGt → Array Value → State → Outcome → State → Prop} {Q : Int32 → Prop} {l0 : Nat} {l1 : Int32} {l2 : Int32} (hd : decode cc pc = .ok (.invokevirtual ix, 3)) (q : Nat) (hq : pc + 3 = q) (hk_l0 : SHk l0 = 9) (w1 : Cond.methodLink own ix yX9_ofSaint ∈ xTs) (hr : 2 < d) (hst : (st.map fun v => v.category).sum ≤ 8) (h : FX9_ofSaint Q l0 l1 l2 M) (k : ∀ (r : Int32), Q r → xX own cc nL rt d q L (.int r :: st) M Rt) : xX own cc nL rt d pc L (.int l2 :: .int l1 :: .ref l0 :: st) M Rt :=
  x_callV_i (n := 2) (As := [.int l1, .int l2]) hd q hq hk_l0 (by decide) rfl rfl w1 kw4_163 kw4_164 kw1_3 kw4_165 (by decide +kernel) rfl hr (by decide) hst _ rfl (cX9_ofSaint_ hk_l0 h) (fun r N hN => by obtain ⟨rfl, hN⟩ := hN; exact k r hN)
def FX9_shown (Q : Int32 → Prop) (l0 : Nat) (l1 : Int32) (M : Mem) : Prop :=
  ((l1 = 0 → Q (M l0 10)) ∧ (l1 = 1 → Q (M l0 11)) ∧ (l1 = 2 → Q (M l0 15)) ∧ (l1 = 3 → Q (M l0 13)) ∧ (l1 = 4 → Q (M l0 16)) ∧ (l1 = 5 → Q (M l0 14)) ∧ (l1 = 6 → Q (M l0 12)) ∧ (l1 = 7 → Q (M l0 9)) ∧ (l1 = 8 → Q (M l0 18)) ∧ (l1 = 9 → Q (M l0 17)) ∧ (¬ l1 = 0 → ¬ l1 = 1 → ¬ l1 = 2 → ¬ l1 = 3 → ¬ l1 = 4 → ¬ l1 = 5 → ¬ l1 = 6 → ¬ l1 = 7 → ¬ l1 = 8 → ¬ l1 = 9 → Q (-1)))
theorem eX9_shown {Q : Int32 → Prop} {l0 : Nat} {l1 : Int32} {M : Mem} (hk_l0 : SHk l0 = 9) (h : FX9_shown Q l0 l1 M) : xX RX9 cX9_shown 2 (some .int) 1 0 [(0, .ref l0), (1, .int l1)] [] M (xQi (xP M Q)) := by
  unfold FX9_shown at h
  refine x_iload_n dX9_shown_0 rfl 1 rfl ?_
  by_cases hc0 : l1 = 0
  · refine x_tab_at dX9_shown_1 hc0 (by decide) (by decide) rfl (tg := 56) rfl ?_
    have h := h.1 hc0
    refine x_aload_n dX9_shown_56 rfl 57 rfl ?_
    refine gf9_10 dX9_shown_57 60 rfl hk_l0 kw1_68 ?_
    exact x_iret dX9_shown_60 ⟨rfl, h⟩
  by_cases hc1 : l1 = 1
  · refine x_tab_at dX9_shown_1 hc1 (by decide) (by decide) rfl (tg := 61) rfl ?_
    have h := h.2.1 hc1
    refine x_aload_n dX9_shown_61 rfl 62 rfl ?_
    refine gf9_11 dX9_shown_62 65 rfl hk_l0 kw1_72 ?_
    exact x_iret dX9_shown_65 ⟨rfl, h⟩
  by_cases hc2 : l1 = 2
  · refine x_tab_at dX9_shown_1 hc2 (by decide) (by decide) rfl (tg := 66) rfl ?_
    have h := h.2.2.1 hc2
    refine x_aload_n dX9_shown_66 rfl 67 rfl ?_
    refine gf9_15 dX9_shown_67 70 rfl hk_l0 kw1_85 ?_
    exact x_iret dX9_shown_70 ⟨rfl, h⟩
  by_cases hc3 : l1 = 3
  · refine x_tab_at dX9_shown_1 hc3 (by decide) (by decide) rfl (tg := 71) rfl ?_
    have h := h.2.2.2.1 hc3
    refine x_aload_n dX9_shown_71 rfl 72 rfl ?_
    refine gf9_13 dX9_shown_72 75 rfl hk_l0 kw1_78 ?_
    exact x_iret dX9_shown_75 ⟨rfl, h⟩
  by_cases hc4 : l1 = 4
  · refine x_tab_at dX9_shown_1 hc4 (by decide) (by decide) rfl (tg := 76) rfl ?_
    have h := h.2.2.2.2.1 hc4
    refine x_aload_n dX9_shown_76 rfl 77 rfl ?_
    refine gf9_16 dX9_shown_77 80 rfl hk_l0 kw1_90 ?_
    exact x_iret dX9_shown_80 ⟨rfl, h⟩
  by_cases hc5 : l1 = 5
  · refine x_tab_at dX9_shown_1 hc5 (by decide) (by decide) rfl (tg := 81) rfl ?_
    have h := h.2.2.2.2.2.1 hc5
    refine x_aload_n dX9_shown_81 rfl 82 rfl ?_
    refine gf9_14 dX9_shown_82 85 rfl hk_l0 kw1_82 ?_
    exact x_iret dX9_shown_85 ⟨rfl, h⟩
  by_cases hc6 : l1 = 6
  · refine x_tab_at dX9_shown_1 hc6 (by decide) (by decide) rfl (tg := 86) rfl ?_
    have h := h.2.2.2.2.2.2.1 hc6
    refine x_aload_n dX9_shown_86 rfl 87 rfl ?_
    refine gf9_12 dX9_shown_87 90 rfl hk_l0 kw1_76 ?_
    exact x_iret dX9_shown_90 ⟨rfl, h⟩
  by_cases hc7 : l1 = 7
  · refine x_tab_at dX9_shown_1 hc7 (by decide) (by decide) rfl (tg := 91) rfl ?_
    have h := h.2.2.2.2.2.2.2.1 hc7
    refine x_aload_n dX9_shown_91 rfl 92 rfl ?_
    refine gf9_9 dX9_shown_92 95 rfl hk_l0 kw1_66 ?_
    exact x_iret dX9_shown_95 ⟨rfl, h⟩
  by_cases hc8 : l1 = 8
  · refine x_tab_at dX9_shown_1 hc8 (by decide) (by decide) rfl (tg := 96) rfl ?_
    have h := h.2.2.2.2.2.2.2.2.1 hc8
    refine x_aload_n dX9_shown_96 rfl 97 rfl ?_
    refine gf9_18 dX9_shown_97 100 rfl hk_l0 kw1_95 ?_
    exact x_iret dX9_shown_100 ⟨rfl, h⟩
  by_cases hc9 : l1 = 9
  · refine x_tab_at dX9_shown_1 hc9 (by decide) (by decide) rfl (tg := 101) rfl ?_
    have h := h.2.2.2.2.2.2.2.2.2.1 hc9
    refine x_aload_n dX9_shown_101 rfl 102 rfl ?_
    refine gf9_17 dX9_shown_102 105 rfl hk_l0 kw1_94 ?_
    exact x_iret dX9_shown_105 ⟨rfl, h⟩
  have h := h.2.2.2.2.2.2.2.2.2.2 hc0 hc1 hc2 hc3 hc4 hc5 hc6 hc7 hc8 hc9
  refine x_tab_out dX9_shown_1 (by have a0 := lv_neT hc0 (a := 0) (by decide); have a1 := lv_neT hc1 (a := 1) (by decide); have a2 := lv_neT hc2 (a := 2) (by decide); have a3 := lv_neT hc3 (a := 3) (by decide); have a4 := lv_neT hc4 (a := 4) (by decide); have a5 := lv_neT hc5 (a := 5) (by decide); have a6 := lv_neT hc6 (a := 6) (by decide); have a7 := lv_neT hc7 (a := 7) (by decide); have a8 := lv_neT hc8 (a := 8) (by decide); have a9 := lv_neT hc9 (a := 9) (by decide); show (l1 : Int32).toInt < 0 ∨ 9 < (l1 : Int32).toInt; omega) (tg := 106) rfl ?_
  refine x_iconst dX9_shown_106 kc_m1 107 rfl ?_
  exact x_iret dX9_shown_107 ⟨rfl, h⟩
theorem cX9_shown_ {Q : Int32 → Prop} {l0 : Nat} {l1 : Int32} {M : Mem} (hk_l0 : SHk l0 = 9) (h : FX9_shown Q l0 l1 M) : xM yX9_shown cX9_shown 2 (some .int) 1 [.ref l0, .int l1] M (xQi (xP M Q)) := xM_of (by decide +kernel) (Nat.le_of_ble_eq_true rfl) (eX9_shown hk_l0 h)
theorem kX9_shown {own : String} {cc : ByteArray} {nL : Nat} {rt : Option FieldType} {d pc ix : Nat} {L : List (Nat × Value)} {st : List Value} {M : Mem} {Rt : xGt → Array Value → State → Outcome → State → Prop} {Q : Int32 → Prop} {l0 : Nat} {l1 : Int32} (hd : decode cc pc = .ok (.invokevirtual ix, 3)) (q : Nat) (hq : pc + 3 = q) (hk_l0 : SHk l0 = 9) (w1 : Cond.methodLink own ix yX9_shown ∈ xTs) (hr : 1 < d) (hst : (st.map fun v => v.category).sum ≤ 8) (h : FX9_shown Q l0 l1 M) (k : ∀ (r : Int32), Q r → xX own cc nL rt d q L (.int r :: st) M Rt) : xX own cc nL rt d pc L (.int l1 :: .ref l0 :: st) M Rt :=
  x_callV_i (n := 1) (As := [.int l1]) hd q hq hk_l0 (by decide) rfl rfl w1 kw5_150 kw5_151 kw1_3 kw5_152 (by decide +kernel) rfl hr (by decide) hst _ rfl (cX9_shown_ hk_l0 h) (fun r N hN => by obtain ⟨rfl, hN⟩ := hN; exact k r hN)
def lbX9_hungerOfLiving_4 (Q : Int32 → Prop) (l0 : Nat) (M : Mem) (B4 : Int32 → Int32 → Prop) (l1 : Int32) (l2 : Int32) : Prop :=
  (((M l0 11) ≤ l2 → Q l1) ∧ (¬ (M l0 11) ≤ l2 → FX9_isDead (fun (r1 : Bool) => ((r1 = true → B4 l1 (l2 + 1)) ∧ (r1 = false → vp_in l2 14 ∧ ∀ y2 : Int32, y2 = l1 + (M (l0 + 7) (ix l2)) → B4 y2 (l2 + 1)))) l0 l2 M))
def NX9_hungerOfLiving_4 (Q : Int32 → Prop) (l0 : Nat) (l1 : Int32) (l2 : Int32) (M : Mem) : Prop := xlp (fun (B : Int32 × Int32 → Prop) a => lbX9_hungerOfLiving_4 Q l0 M (fun l1 l2 => B (l1, l2)) a.1 a.2) (l1, l2)
theorem nX9_hungerOfLiving_4 {Q : Int32 → Prop} {l0 : Nat} {l1 : Int32} {l2 : Int32} {M : Mem} (hk_l0 : SHk l0 = 9) (h : NX9_hungerOfLiving_4 Q l0 l1 l2 M) : xX RX9 cX9_hungerOfLiving 3 (some .int) 2 4 [(0, .ref l0), (1, .int l1), (2, .int l2)] [] M (xQi (xP M Q)) := by
  obtain ⟨n, h⟩ := h
  have hB4 : ∀ (n : Nat) (l1 : Int32) (l2 : Int32), xlpn (fun (B : Int32 × Int32 → Prop) a => lbX9_hungerOfLiving_4 Q l0 M (fun l1 l2 => B (l1, l2)) a.1 a.2) n (l1, l2) → xX RX9 cX9_hungerOfLiving 3 (some .int) 2 4 [(0, .ref l0), (1, .int l1), (2, .int l2)] [] M (xQi (xP M Q)) := by
    intro n
    induction n with
    | zero => intro l1 l2 h; exact False.elim h
    | succ n ih =>
      intro l1 l2 h
      have hB4 := ih
      have h : lbX9_hungerOfLiving_4 Q l0 M (fun l1 l2 => xlpn (fun (B : Int32 × Int32 → Prop) a => lbX9_hungerOfLiving_4 Q l0 M (fun l1 l2 => B (l1, l2)) a.1 a.2) n (l1, l2)) l1 l2 := h
      unfold lbX9_hungerOfLiving_4 at h
      refine x_iload_n dX9_hungerOfLiving_4 rfl 5 rfl ?_
      refine x_aload_n dX9_hungerOfLiving_5 rfl 6 rfl ?_
      refine gf9_11 dX9_hungerOfLiving_6 9 rfl hk_l0 kw1_72 ?_
      refine x_icmp_ge dX9_hungerOfLiving_9 35 12 rfl rfl (fun hc => ?_) (fun hc => ?_)
      · have h := h.1 hc
        refine x_iload_n dX9_hungerOfLiving_35 rfl 36 rfl ?_
        exact x_iret dX9_hungerOfLiving_36 ⟨rfl, h⟩
      · have h := h.2 hc
        refine x_aload_n dX9_hungerOfLiving_12 rfl 13 rfl ?_
        refine x_iload_n dX9_hungerOfLiving_13 rfl 14 rfl ?_
        refine kX9_isDead dX9_hungerOfLiving_14 17 rfl hk_l0 kw3_71 (Nat.le_of_ble_eq_true rfl) (Nat.le_of_ble_eq_true rfl) h (fun r1 h => ?_)
        refine x_if_ne_b dX9_hungerOfLiving_17 29 20 rfl rfl (fun hc => ?_) (fun hc => ?_)
        · have h := h.1 hc
          refine x_iinc dX9_hungerOfLiving_29 rfl (congrArg (l2 + ·) kc_1) (Nat.le_of_ble_eq_true rfl) [(0, .ref l0), (1, .int l1), (2, .int (l2 + 1))] rfl 32 rfl ?_
          refine x_goto dX9_hungerOfLiving_32 4 rfl ?_
          exact hB4 _ _ h
        · have h := h.2 hc
          refine x_iload_n dX9_hungerOfLiving_20 rfl 21 rfl ?_
          refine x_aload_n dX9_hungerOfLiving_21 rfl 22 rfl ?_
          refine gf9_7 dX9_hungerOfLiving_22 25 rfl hk_l0 kw1_63 ?_
          refine x_iload_n dX9_hungerOfLiving_25 rfl 26 rfl ?_
          obtain ⟨hin, h⟩ := h
          refine x_iaload dX9_hungerOfLiving_26 (ly9_7 hk_l0) hin 27 rfl ?_
          refine x_iadd dX9_hungerOfLiving_27 28 rfl ?_
          refine x_top (fun y2 hy2 => ?_)
          have h := h y2 hy2
          refine x_istore_n dX9_hungerOfLiving_28 (Nat.le_of_ble_eq_true rfl) [(0, .ref l0), (1, .int y2), (2, .int l2)] rfl 29 rfl ?_
          refine x_iinc dX9_hungerOfLiving_29 rfl (congrArg (l2 + ·) kc_1) (Nat.le_of_ble_eq_true rfl) [(0, .ref l0), (1, .int y2), (2, .int (l2 + 1))] rfl 32 rfl ?_
          refine x_goto dX9_hungerOfLiving_32 4 rfl ?_
          exact hB4 _ _ h
  exact hB4 n l1 l2 h
def FX9_hungerOfLiving (Q : Int32 → Prop) (l0 : Nat) (M : Mem) : Prop :=
  NX9_hungerOfLiving_4 Q l0 0 0 M
theorem eX9_hungerOfLiving {Q : Int32 → Prop} {l0 : Nat} {M : Mem} (hk_l0 : SHk l0 = 9) (h : FX9_hungerOfLiving Q l0 M) : xX RX9 cX9_hungerOfLiving 3 (some .int) 2 0 [(0, .ref l0)] [] M (xQi (xP M Q)) := by
  unfold FX9_hungerOfLiving at h
  refine x_iconst dX9_hungerOfLiving_0 kc_0 1 rfl ?_
  refine x_istore_n dX9_hungerOfLiving_1 (Nat.le_of_ble_eq_true rfl) [(0, .ref l0), (1, .int 0)] rfl 2 rfl ?_
  refine x_iconst dX9_hungerOfLiving_2 kc_0 3 rfl ?_
  refine x_istore_n dX9_hungerOfLiving_3 (Nat.le_of_ble_eq_true rfl) [(0, .ref l0), (1, .int 0), (2, .int 0)] rfl 4 rfl ?_
  exact nX9_hungerOfLiving_4 hk_l0 h
theorem cX9_hungerOfLiving_ {Q : Int32 → Prop} {l0 : Nat} {M : Mem} (hk_l0 : SHk l0 = 9) (h : FX9_hungerOfLiving Q l0 M) : xM yX9_hungerOfLiving cX9_hungerOfLiving 3 (some .int) 2 [.ref l0] M (xQi (xP M Q)) := xM_of (by decide +kernel) (Nat.le_of_ble_eq_true rfl) (eX9_hungerOfLiving hk_l0 h)
theorem kX9_hungerOfLiving {own : String} {cc : ByteArray} {nL : Nat} {rt : Option FieldType} {d pc ix : Nat} {L : List (Nat × Value)} {st : List Value} {M : Mem} {Rt : xGt → Array Value → State → Outcome → State → Prop} {Q : Int32 → Prop} {l0 : Nat} (hd : decode cc pc = .ok (.invokevirtual ix, 3)) (q : Nat) (hq : pc + 3 = q) (hk_l0 : SHk l0 = 9) (w1 : Cond.methodLink own ix yX9_hungerOfLiving ∈ xTs) (hr : 2 < d) (hst : (st.map fun v => v.category).sum ≤ 8) (h : FX9_hungerOfLiving Q l0 M) (k : ∀ (r : Int32), Q r → xX own cc nL rt d q L (.int r :: st) M Rt) : xX own cc nL rt d pc L (.ref l0 :: st) M Rt :=
  x_callV_i (n := 0) (As := []) hd q hq hk_l0 (by decide) rfl rfl w1 kw4_196 kw4_197 kw1_3 kw4_198 (by decide +kernel) rfl hr (by decide) hst _ rfl (cX9_hungerOfLiving_ hk_l0 h) (fun r N hN => by obtain ⟨rfl, hN⟩ := hN; exact k r hN)
def FX9_lastAdvice (Q : Int32 → Prop) (l0 : Nat) (M : Mem) : Prop :=
  (((M l0 10) = 0 → Q 0) ∧ (¬ (M l0 10) = 0 → ((¬ (M (l0 + 3) 0) = (-100) → Q (M (l0 + 3) 0)) ∧ ((M (l0 + 3) 0) = (-100) → Q 0))))
theorem eX9_lastAdvice {Q : Int32 → Prop} {l0 : Nat} {M : Mem} (hk_l0 : SHk l0 = 9) (h : FX9_lastAdvice Q l0 M) : xX RX9 cX9_lastAdvice 1 (some .int) 1 0 [(0, .ref l0)] [] M (xQi (xP M Q)) := by
  unfold FX9_lastAdvice at h
  refine x_aload_n dX9_lastAdvice_0 rfl 1 rfl ?_
  refine gf9_10 dX9_lastAdvice_1 4 rfl hk_l0 kw1_68 ?_
  refine x_if_eq dX9_lastAdvice_4 18 7 rfl rfl (fun hc => ?_) (fun hc => ?_)
  · have h := h.1 hc
    refine x_iconst dX9_lastAdvice_18 kc_0 19 rfl ?_
    refine x_goto dX9_lastAdvice_19 28 rfl ?_
    exact x_iret dX9_lastAdvice_28 ⟨rfl, h⟩
  · have h := h.2 hc
    refine x_aload_n dX9_lastAdvice_7 rfl 8 rfl ?_
    refine gf9_3 dX9_lastAdvice_8 11 rfl hk_l0 kw1_52 ?_
    refine x_iconst dX9_lastAdvice_11 kc_0 12 rfl ?_
    refine x_iaload dX9_lastAdvice_12 (ly9_3 hk_l0) (by unfold vp_in; decide) 13 rfl ?_
    refine x_bipush dX9_lastAdvice_13 kb_m100 15 rfl ?_
    refine x_icmp_ne dX9_lastAdvice_15 22 18 rfl rfl (fun hc => ?_) (fun hc => ?_)
    · have h := h.1 hc
      refine x_aload_n dX9_lastAdvice_22 rfl 23 rfl ?_
      refine gf9_3 dX9_lastAdvice_23 26 rfl hk_l0 kw1_52 ?_
      refine x_iconst dX9_lastAdvice_26 kc_0 27 rfl ?_
      refine x_iaload dX9_lastAdvice_27 (ly9_3 hk_l0) (by unfold vp_in; decide) 28 rfl ?_
      exact x_iret dX9_lastAdvice_28 ⟨rfl, h⟩
    · have h := h.2 hc
      refine x_iconst dX9_lastAdvice_18 kc_0 19 rfl ?_
      refine x_goto dX9_lastAdvice_19 28 rfl ?_
      exact x_iret dX9_lastAdvice_28 ⟨rfl, h⟩
theorem cX9_lastAdvice_ {Q : Int32 → Prop} {l0 : Nat} {M : Mem} (hk_l0 : SHk l0 = 9) (h : FX9_lastAdvice Q l0 M) : xM yX9_lastAdvice cX9_lastAdvice 1 (some .int) 1 [.ref l0] M (xQi (xP M Q)) := xM_of (by decide +kernel) (Nat.le_of_ble_eq_true rfl) (eX9_lastAdvice hk_l0 h)
theorem kX9_lastAdvice {own : String} {cc : ByteArray} {nL : Nat} {rt : Option FieldType} {d pc ix : Nat} {L : List (Nat × Value)} {st : List Value} {M : Mem} {Rt : xGt → Array Value → State → Outcome → State → Prop} {Q : Int32 → Prop} {l0 : Nat} (hd : decode cc pc = .ok (.invokevirtual ix, 3)) (q : Nat) (hq : pc + 3 = q) (hk_l0 : SHk l0 = 9) (w1 : Cond.methodLink own ix yX9_lastAdvice ∈ xTs) (hr : 1 < d) (hst : (st.map fun v => v.category).sum ≤ 8) (h : FX9_lastAdvice Q l0 M) (k : ∀ (r : Int32), Q r → xX own cc nL rt d q L (.int r :: st) M Rt) : xX own cc nL rt d pc L (.ref l0 :: st) M Rt :=
  x_callV_i (n := 0) (As := []) hd q hq hk_l0 (by decide) rfl rfl w1 kw4_200 kw4_201 kw1_3 kw4_202 (by decide +kernel) rfl hr (by decide) hst _ rfl (cX9_lastAdvice_ hk_l0 h) (fun r N hN => by obtain ⟨rfl, hN⟩ := hN; exact k r hN)
def lbX9_sitting_4 (Q : Int32 → Prop) (l0 : Nat) (M : Mem) (B4 : Int32 → Int32 → Prop) (l1 : Int32) (l2 : Int32) : Prop :=
  (((M l0 10) ≤ l2 → Q l1) ∧ (¬ (M l0 10) ≤ l2 → vp_in l2 10 ∧ (((M (l0 + 2) (ix l2)) = (-1) → B4 l1 (l2 + 1)) ∧ (¬ (M (l0 + 2) (ix l2)) = (-1) → B4 (l1 + 1) (l2 + 1)))))
def NX9_sitting_4 (Q : Int32 → Prop) (l0 : Nat) (l1 : Int32) (l2 : Int32) (M : Mem) : Prop := xlp (fun (B : Int32 × Int32 → Prop) a => lbX9_sitting_4 Q l0 M (fun l1 l2 => B (l1, l2)) a.1 a.2) (l1, l2)
theorem nX9_sitting_4 {Q : Int32 → Prop} {l0 : Nat} {l1 : Int32} {l2 : Int32} {M : Mem} (hk_l0 : SHk l0 = 9) (h : NX9_sitting_4 Q l0 l1 l2 M) : xX RX9 cX9_sitting 3 (some .int) 1 4 [(0, .ref l0), (1, .int l1), (2, .int l2)] [] M (xQi (xP M Q)) := by
  obtain ⟨n, h⟩ := h
  have hB4 : ∀ (n : Nat) (l1 : Int32) (l2 : Int32), xlpn (fun (B : Int32 × Int32 → Prop) a => lbX9_sitting_4 Q l0 M (fun l1 l2 => B (l1, l2)) a.1 a.2) n (l1, l2) → xX RX9 cX9_sitting 3 (some .int) 1 4 [(0, .ref l0), (1, .int l1), (2, .int l2)] [] M (xQi (xP M Q)) := by
    intro n
    induction n with
    | zero => intro l1 l2 h; exact False.elim h
    | succ n ih =>
      intro l1 l2 h
      have hB4 := ih
      have h : lbX9_sitting_4 Q l0 M (fun l1 l2 => xlpn (fun (B : Int32 × Int32 → Prop) a => lbX9_sitting_4 Q l0 M (fun l1 l2 => B (l1, l2)) a.1 a.2) n (l1, l2)) l1 l2 := h
      unfold lbX9_sitting_4 at h
      refine x_iload_n dX9_sitting_4 rfl 5 rfl ?_
      refine x_aload_n dX9_sitting_5 rfl 6 rfl ?_
      refine gf9_10 dX9_sitting_6 9 rfl hk_l0 kw1_68 ?_
      refine x_icmp_ge dX9_sitting_9 31 12 rfl rfl (fun hc => ?_) (fun hc => ?_)
      · have h := h.1 hc
        refine x_iload_n dX9_sitting_31 rfl 32 rfl ?_
        exact x_iret dX9_sitting_32 ⟨rfl, h⟩
      · have h := h.2 hc
        refine x_aload_n dX9_sitting_12 rfl 13 rfl ?_
        refine gf9_2 dX9_sitting_13 16 rfl hk_l0 kw1_50 ?_
        refine x_iload_n dX9_sitting_16 rfl 17 rfl ?_
        obtain ⟨hin, h⟩ := h
        refine x_iaload dX9_sitting_17 (ly9_2 hk_l0) hin 18 rfl ?_
        refine x_iconst dX9_sitting_18 kc_m1 19 rfl ?_
        refine x_icmp_eq dX9_sitting_19 25 22 rfl rfl (fun hc => ?_) (fun hc => ?_)
        · have h := h.1 hc
          refine x_iinc dX9_sitting_25 rfl (congrArg (l2 + ·) kc_1) (Nat.le_of_ble_eq_true rfl) [(0, .ref l0), (1, .int l1), (2, .int (l2 + 1))] rfl 28 rfl ?_
          refine x_goto dX9_sitting_28 4 rfl ?_
          exact hB4 _ _ h
        · have h := h.2 hc
          refine x_iinc dX9_sitting_22 rfl (congrArg (l1 + ·) kc_1) (Nat.le_of_ble_eq_true rfl) [(0, .ref l0), (1, .int (l1 + 1)), (2, .int l2)] rfl 25 rfl ?_
          refine x_iinc dX9_sitting_25 rfl (congrArg (l2 + ·) kc_1) (Nat.le_of_ble_eq_true rfl) [(0, .ref l0), (1, .int (l1 + 1)), (2, .int (l2 + 1))] rfl 28 rfl ?_
          refine x_goto dX9_sitting_28 4 rfl ?_
          exact hB4 _ _ h
  exact hB4 n l1 l2 h
def FX9_sitting (Q : Int32 → Prop) (l0 : Nat) (M : Mem) : Prop :=
  NX9_sitting_4 Q l0 0 0 M
theorem eX9_sitting {Q : Int32 → Prop} {l0 : Nat} {M : Mem} (hk_l0 : SHk l0 = 9) (h : FX9_sitting Q l0 M) : xX RX9 cX9_sitting 3 (some .int) 1 0 [(0, .ref l0)] [] M (xQi (xP M Q)) := by
  unfold FX9_sitting at h
  refine x_iconst dX9_sitting_0 kc_0 1 rfl ?_
  refine x_istore_n dX9_sitting_1 (Nat.le_of_ble_eq_true rfl) [(0, .ref l0), (1, .int 0)] rfl 2 rfl ?_
  refine x_iconst dX9_sitting_2 kc_0 3 rfl ?_
  refine x_istore_n dX9_sitting_3 (Nat.le_of_ble_eq_true rfl) [(0, .ref l0), (1, .int 0), (2, .int 0)] rfl 4 rfl ?_
  exact nX9_sitting_4 hk_l0 h
theorem cX9_sitting_ {Q : Int32 → Prop} {l0 : Nat} {M : Mem} (hk_l0 : SHk l0 = 9) (h : FX9_sitting Q l0 M) : xM yX9_sitting cX9_sitting 3 (some .int) 1 [.ref l0] M (xQi (xP M Q)) := xM_of (by decide +kernel) (Nat.le_of_ble_eq_true rfl) (eX9_sitting hk_l0 h)
theorem kX9_sitting {own : String} {cc : ByteArray} {nL : Nat} {rt : Option FieldType} {d pc ix : Nat} {L : List (Nat × Value)} {st : List Value} {M : Mem} {Rt : xGt → Array Value → State → Outcome → State → Prop} {Q : Int32 → Prop} {l0 : Nat} (hd : decode cc pc = .ok (.invokevirtual ix, 3)) (q : Nat) (hq : pc + 3 = q) (hk_l0 : SHk l0 = 9) (w1 : Cond.methodLink own ix yX9_sitting ∈ xTs) (hr : 1 < d) (hst : (st.map fun v => v.category).sum ≤ 8) (h : FX9_sitting Q l0 M) (k : ∀ (r : Int32), Q r → xX own cc nL rt d q L (.int r :: st) M Rt) : xX own cc nL rt d pc L (.ref l0 :: st) M Rt :=
  x_callV_i (n := 0) (As := []) hd q hq hk_l0 (by decide) rfl rfl w1 kw4_225 kw4_226 kw1_3 kw4_227 (by decide +kernel) rfl hr (by decide) hst _ rfl (cX9_sitting_ hk_l0 h) (fun r N hN => by obtain ⟨rfl, hN⟩ := hN; exact k r hN)
def lbX9_spread_13 (Q : Int32 → Prop) (l0 : Nat) (l1 : Int32) (l2 : Int32) (M : Mem) (B13 : Int32 → Int32 → Int32 → Int32 → Prop) (l3 : Int32) (l4 : Int32) (l5 : Int32) (l6 : Int32) : Prop :=
  (((M l0 10) ≤ l6 → Q (l4 - l3)) ∧ (¬ (M l0 10) ≤ l6 → vp_in l6 10 ∧ FX9_isSaint (fun (r1 : Bool) => ((r1 = true → ((l5 < l1 → B13 l3 l4 (l5 + 1) (l6 + 1)) ∧ (¬ l5 < l1 → ((l2 ≤ l5 → B13 l3 l4 (l5 + 1) (l6 + 1)) ∧ (¬ l2 ≤ l5 → vp_in (M (l0 + 2) (ix l6)) 14 ∧ FJ9_min_7cf53 (fun (r2 : Int32) => vp_in (M (l0 + 2) (ix l6)) 14 ∧ FJ9_max_7cf53 (fun (r3 : Int32) => B13 r2 r3 (l5 + 1) (l6 + 1)) l4 (M (l0 + 6) (ix (M (l0 + 2) (ix l6)))) M) l3 (M (l0 + 6) (ix (M (l0 + 2) (ix l6)))) M))))) ∧ (r1 = false → B13 l3 l4 l5 (l6 + 1)))) l0 (M (l0 + 2) (ix l6)) M))
def NX9_spread_13 (Q : Int32 → Prop) (l0 : Nat) (l1 : Int32) (l2 : Int32) (l3 : Int32) (l4 : Int32) (l5 : Int32) (l6 : Int32) (M : Mem) : Prop := xlp (fun (B : Int32 × Int32 × Int32 × Int32 → Prop) a => lbX9_spread_13 Q l0 l1 l2 M (fun l3 l4 l5 l6 => B (l3, l4, l5, l6)) a.1 a.2.1 a.2.2.1 a.2.2.2) (l3, l4, l5, l6)
theorem nX9_spread_13 {Q : Int32 → Prop} {l0 : Nat} {l1 : Int32} {l2 : Int32} {l3 : Int32} {l4 : Int32} {l5 : Int32} {l6 : Int32} {M : Mem} (hk_l0 : SHk l0 = 9) (h : NX9_spread_13 Q l0 l1 l2 l3 l4 l5 l6 M) : xX RX9 cX9_spread 8 (some .int) 2 13 [(0, .ref l0), (1, .int l1), (2, .int l2), (3, .int l3), (4, .int l4), (5, .int l5), (6, .int l6)] [] M (xQi (xP M Q)) := by
  obtain ⟨n, h⟩ := h
  have hB13 : ∀ (n : Nat) (l3 : Int32) (l4 : Int32) (l5 : Int32) (l6 : Int32), xlpn (fun (B : Int32 × Int32 × Int32 × Int32 → Prop) a => lbX9_spread_13 Q l0 l1 l2 M (fun l3 l4 l5 l6 => B (l3, l4, l5, l6)) a.1 a.2.1 a.2.2.1 a.2.2.2) n (l3, l4, l5, l6) → xX RX9 cX9_spread 8 (some .int) 2 13 [(0, .ref l0), (1, .int l1), (2, .int l2), (3, .int l3), (4, .int l4), (5, .int l5), (6, .int l6)] [] M (xQi (xP M Q)) := by
    intro n
    induction n with
    | zero => intro l3 l4 l5 l6 h; exact False.elim h
    | succ n ih =>
      intro l3 l4 l5 l6 h
      have hB13 := ih
      have h : lbX9_spread_13 Q l0 l1 l2 M (fun l3 l4 l5 l6 => xlpn (fun (B : Int32 × Int32 × Int32 × Int32 → Prop) a => lbX9_spread_13 Q l0 l1 l2 M (fun l3 l4 l5 l6 => B (l3, l4, l5, l6)) a.1 a.2.1 a.2.2.1 a.2.2.2) n (l3, l4, l5, l6)) l3 l4 l5 l6 := h
      unfold lbX9_spread_13 at h
      refine x_iload dX9_spread_13 rfl 15 rfl ?_
      refine x_aload_n dX9_spread_15 rfl 16 rfl ?_
      refine gf9_10 dX9_spread_16 19 rfl hk_l0 kw1_68 ?_
      refine x_icmp_ge dX9_spread_19 90 22 rfl rfl (fun hc => ?_) (fun hc => ?_)
      · have h := h.1 hc
        refine x_iload dX9_spread_90 rfl 92 rfl ?_
        refine x_iload_n dX9_spread_92 rfl 93 rfl ?_
        refine x_isub dX9_spread_93 94 rfl ?_
        exact x_iret dX9_spread_94 ⟨rfl, h⟩
      · have h := h.2 hc
        refine x_aload_n dX9_spread_22 rfl 23 rfl ?_
        refine gf9_2 dX9_spread_23 26 rfl hk_l0 kw1_50 ?_
        refine x_iload dX9_spread_26 rfl 28 rfl ?_
        obtain ⟨hin, h⟩ := h
        refine x_iaload dX9_spread_28 (ly9_2 hk_l0) hin 29 rfl ?_
        refine x_istore dX9_spread_29 (Nat.le_of_ble_eq_true rfl) [(0, .ref l0), (1, .int l1), (2, .int l2), (3, .int l3), (4, .int l4), (5, .int l5), (6, .int l6), (7, .int (M (l0 + 2) (ix l6)))] rfl 31 rfl ?_
        refine x_aload_n dX9_spread_31 rfl 32 rfl ?_
        refine x_iload dX9_spread_32 rfl 34 rfl ?_
        refine kX9_isSaint dX9_spread_34 37 rfl hk_l0 kw2_233 (Nat.le_of_ble_eq_true rfl) (Nat.le_of_ble_eq_true rfl) h (fun r1 h => ?_)
        refine x_if_ne_b dX9_spread_37 43 40 rfl rfl (fun hc => ?_) (fun hc => ?_)
        · have h := h.1 hc
          refine x_iload dX9_spread_43 rfl 45 rfl ?_
          refine x_iload_n dX9_spread_45 rfl 46 rfl ?_
          refine x_icmp_lt dX9_spread_46 81 49 rfl rfl (fun hc => ?_) (fun hc => ?_)
          · have h := h.1 hc
            refine x_iinc dX9_spread_81 rfl (congrArg (l5 + ·) kc_1) (Nat.le_of_ble_eq_true rfl) [(0, .ref l0), (1, .int l1), (2, .int l2), (3, .int l3), (4, .int l4), (5, .int (l5 + 1)), (6, .int l6), (7, .int (M (l0 + 2) (ix l6)))] rfl 84 rfl ?_
            refine x_iinc dX9_spread_84 rfl (congrArg (l6 + ·) kc_1) (Nat.le_of_ble_eq_true rfl) [(0, .ref l0), (1, .int l1), (2, .int l2), (3, .int l3), (4, .int l4), (5, .int (l5 + 1)), (6, .int (l6 + 1)), (7, .int (M (l0 + 2) (ix l6)))] rfl 87 rfl ?_
            refine x_goto dX9_spread_87 13 rfl ?_
            refine x_weak [(0, .ref l0), (1, .int l1), (2, .int l2), (3, .int l3), (4, .int l4), (5, .int (l5 + 1)), (6, .int (l6 + 1))] [0, 1, 2, 3, 4, 5, 6] rfl ?_
            exact hB13 _ _ _ _ h
          · have h := h.2 hc
            refine x_iload dX9_spread_49 rfl 51 rfl ?_
            refine x_iload_n dX9_spread_51 rfl 52 rfl ?_
            refine x_icmp_ge dX9_spread_52 81 55 rfl rfl (fun hc => ?_) (fun hc => ?_)
            · have h := h.1 hc
              refine x_iinc dX9_spread_81 rfl (congrArg (l5 + ·) kc_1) (Nat.le_of_ble_eq_true rfl) [(0, .ref l0), (1, .int l1), (2, .int l2), (3, .int l3), (4, .int l4), (5, .int (l5 + 1)), (6, .int l6), (7, .int (M (l0 + 2) (ix l6)))] rfl 84 rfl ?_
              refine x_iinc dX9_spread_84 rfl (congrArg (l6 + ·) kc_1) (Nat.le_of_ble_eq_true rfl) [(0, .ref l0), (1, .int l1), (2, .int l2), (3, .int l3), (4, .int l4), (5, .int (l5 + 1)), (6, .int (l6 + 1)), (7, .int (M (l0 + 2) (ix l6)))] rfl 87 rfl ?_
              refine x_goto dX9_spread_87 13 rfl ?_
              refine x_weak [(0, .ref l0), (1, .int l1), (2, .int l2), (3, .int l3), (4, .int l4), (5, .int (l5 + 1)), (6, .int (l6 + 1))] [0, 1, 2, 3, 4, 5, 6] rfl ?_
              exact hB13 _ _ _ _ h
            · have h := h.2 hc
              refine x_iload_n dX9_spread_55 rfl 56 rfl ?_
              refine x_aload_n dX9_spread_56 rfl 57 rfl ?_
              refine gf9_6 dX9_spread_57 60 rfl hk_l0 kw1_60 ?_
              refine x_iload dX9_spread_60 rfl 62 rfl ?_
              obtain ⟨hin, h⟩ := h
              refine x_iaload dX9_spread_62 (ly9_6 hk_l0) hin 63 rfl ?_
              refine kJ9_min_7cf53 dX9_spread_63 66 rfl kw3_29 (Nat.le_of_ble_eq_true rfl) (Nat.le_of_ble_eq_true rfl) h (fun r2 h => ?_)
              refine x_istore_n dX9_spread_66 (Nat.le_of_ble_eq_true rfl) [(0, .ref l0), (1, .int l1), (2, .int l2), (3, .int r2), (4, .int l4), (5, .int l5), (6, .int l6), (7, .int (M (l0 + 2) (ix l6)))] rfl 67 rfl ?_
              refine x_iload dX9_spread_67 rfl 69 rfl ?_
              refine x_aload_n dX9_spread_69 rfl 70 rfl ?_
              refine gf9_6 dX9_spread_70 73 rfl hk_l0 kw1_60 ?_
              refine x_iload dX9_spread_73 rfl 75 rfl ?_
              obtain ⟨hin, h⟩ := h
              refine x_iaload dX9_spread_75 (ly9_6 hk_l0) hin 76 rfl ?_
              refine kJ9_max_7cf53 dX9_spread_76 79 rfl kw3_127 (Nat.le_of_ble_eq_true rfl) (Nat.le_of_ble_eq_true rfl) h (fun r3 h => ?_)
              refine x_istore dX9_spread_79 (Nat.le_of_ble_eq_true rfl) [(0, .ref l0), (1, .int l1), (2, .int l2), (3, .int r2), (4, .int r3), (5, .int l5), (6, .int l6), (7, .int (M (l0 + 2) (ix l6)))] rfl 81 rfl ?_
              refine x_iinc dX9_spread_81 rfl (congrArg (l5 + ·) kc_1) (Nat.le_of_ble_eq_true rfl) [(0, .ref l0), (1, .int l1), (2, .int l2), (3, .int r2), (4, .int r3), (5, .int (l5 + 1)), (6, .int l6), (7, .int (M (l0 + 2) (ix l6)))] rfl 84 rfl ?_
              refine x_iinc dX9_spread_84 rfl (congrArg (l6 + ·) kc_1) (Nat.le_of_ble_eq_true rfl) [(0, .ref l0), (1, .int l1), (2, .int l2), (3, .int r2), (4, .int r3), (5, .int (l5 + 1)), (6, .int (l6 + 1)), (7, .int (M (l0 + 2) (ix l6)))] rfl 87 rfl ?_
              refine x_goto dX9_spread_87 13 rfl ?_
              refine x_weak [(0, .ref l0), (1, .int l1), (2, .int l2), (3, .int r2), (4, .int r3), (5, .int (l5 + 1)), (6, .int (l6 + 1))] [0, 1, 2, 3, 4, 5, 6] rfl ?_
              exact hB13 _ _ _ _ h
        · have h := h.2 hc
          refine x_goto dX9_spread_40 84 rfl ?_
          refine x_iinc dX9_spread_84 rfl (congrArg (l6 + ·) kc_1) (Nat.le_of_ble_eq_true rfl) [(0, .ref l0), (1, .int l1), (2, .int l2), (3, .int l3), (4, .int l4), (5, .int l5), (6, .int (l6 + 1)), (7, .int (M (l0 + 2) (ix l6)))] rfl 87 rfl ?_
          refine x_goto dX9_spread_87 13 rfl ?_
          refine x_weak [(0, .ref l0), (1, .int l1), (2, .int l2), (3, .int l3), (4, .int l4), (5, .int l5), (6, .int (l6 + 1))] [0, 1, 2, 3, 4, 5, 6] rfl ?_
          exact hB13 _ _ _ _ h
  exact hB13 n l3 l4 l5 l6 h
def FX9_spread (Q : Int32 → Prop) (l0 : Nat) (l1 : Int32) (l2 : Int32) (M : Mem) : Prop :=
  NX9_spread_13 Q l0 l1 l2 99 (-99) 0 0 M
theorem eX9_spread {Q : Int32 → Prop} {l0 : Nat} {l1 : Int32} {l2 : Int32} {M : Mem} (hk_l0 : SHk l0 = 9) (h : FX9_spread Q l0 l1 l2 M) : xX RX9 cX9_spread 8 (some .int) 2 0 [(0, .ref l0), (1, .int l1), (2, .int l2)] [] M (xQi (xP M Q)) := by
  unfold FX9_spread at h
  refine x_bipush dX9_spread_0 kb_99 2 rfl ?_
  refine x_istore_n dX9_spread_2 (Nat.le_of_ble_eq_true rfl) [(0, .ref l0), (1, .int l1), (2, .int l2), (3, .int 99)] rfl 3 rfl ?_
  refine x_bipush dX9_spread_3 kb_m99 5 rfl ?_
  refine x_istore dX9_spread_5 (Nat.le_of_ble_eq_true rfl) [(0, .ref l0), (1, .int l1), (2, .int l2), (3, .int 99), (4, .int (-99))] rfl 7 rfl ?_
  refine x_iconst dX9_spread_7 kc_0 8 rfl ?_
  refine x_istore dX9_spread_8 (Nat.le_of_ble_eq_true rfl) [(0, .ref l0), (1, .int l1), (2, .int l2), (3, .int 99), (4, .int (-99)), (5, .int 0)] rfl 10 rfl ?_
  refine x_iconst dX9_spread_10 kc_0 11 rfl ?_
  refine x_istore dX9_spread_11 (Nat.le_of_ble_eq_true rfl) [(0, .ref l0), (1, .int l1), (2, .int l2), (3, .int 99), (4, .int (-99)), (5, .int 0), (6, .int 0)] rfl 13 rfl ?_
  exact nX9_spread_13 hk_l0 h
theorem cX9_spread_ {Q : Int32 → Prop} {l0 : Nat} {l1 : Int32} {l2 : Int32} {M : Mem} (hk_l0 : SHk l0 = 9) (h : FX9_spread Q l0 l1 l2 M) : xM yX9_spread cX9_spread 8 (some .int) 2 [.ref l0, .int l1, .int l2] M (xQi (xP M Q)) := xM_of (by decide +kernel) (Nat.le_of_ble_eq_true rfl) (eX9_spread hk_l0 h)
theorem kX9_spread {own : String} {cc : ByteArray} {nL : Nat} {rt : Option FieldType} {d pc ix : Nat} {L : List (Nat × Value)} {st : List Value} {M : Mem} {Rt : xGt → Array Value → State → Outcome → State → Prop} {Q : Int32 → Prop} {l0 : Nat} {l1 : Int32} {l2 : Int32} (hd : decode cc pc = .ok (.invokevirtual ix, 3)) (q : Nat) (hq : pc + 3 = q) (hk_l0 : SHk l0 = 9) (w1 : Cond.methodLink own ix yX9_spread ∈ xTs) (hr : 2 < d) (hst : (st.map fun v => v.category).sum ≤ 8) (h : FX9_spread Q l0 l1 l2 M) (k : ∀ (r : Int32), Q r → xX own cc nL rt d q L (.int r :: st) M Rt) : xX own cc nL rt d pc L (.int l2 :: .int l1 :: .ref l0 :: st) M Rt :=
  x_callV_i (n := 2) (As := [.int l1, .int l2]) hd q hq hk_l0 (by decide) rfl rfl w1 kw4_229 kw4_230 kw1_3 kw4_231 (by decide +kernel) rfl hr (by decide) hst _ rfl (cX9_spread_ hk_l0 h) (fun r N hN => by obtain ⟨rfl, hN⟩ := hN; exact k r hN)
def lbX9_wayTo_4 (Q : Int32 → Prop) (l0 : Nat) (l1 : Int32) (M : Mem) (B4 : Int32 → Int32 → Prop) (l2 : Int32) (l3 : Int32) : Prop :=
  (((M l0 10) ≤ l3 → Q l2) ∧ (¬ (M l0 10) ≤ l3 → vp_in l3 10 ∧ (((M (l0 + 2) (ix l3)) = (-1) → B4 l2 (l3 + 1)) ∧ (¬ (M (l0 + 2) (ix l3)) = (-1) → FX9_isPillar (fun (r1 : Bool) => ((r1 = false → B4 l2 (l3 + 1)) ∧ (r1 = true → vp_in l3 10 ∧ vp_in l1 10 ∧ FJ9_abs_0f7a4 (fun (r2 : Int32) => B4 (l2 + r2) (l3 + 1)) ((M (l0 + 1) (ix l3)) - (M (l0 + 1) (ix l1))) M))) l0 l1 M))))
def NX9_wayTo_4 (Q : Int32 → Prop) (l0 : Nat) (l1 : Int32) (l2 : Int32) (l3 : Int32) (M : Mem) : Prop := xlp (fun (B : Int32 × Int32 → Prop) a => lbX9_wayTo_4 Q l0 l1 M (fun l2 l3 => B (l2, l3)) a.1 a.2) (l2, l3)
theorem nX9_wayTo_4 {Q : Int32 → Prop} {l0 : Nat} {l1 : Int32} {l2 : Int32} {l3 : Int32} {M : Mem} (hk_l0 : SHk l0 = 9) (h : NX9_wayTo_4 Q l0 l1 l2 l3 M) : xX RX9 cX9_wayTo 4 (some .int) 2 4 [(0, .ref l0), (1, .int l1), (2, .int l2), (3, .int l3)] [] M (xQi (xP M Q)) := by
  obtain ⟨n, h⟩ := h
  have hB4 : ∀ (n : Nat) (l2 : Int32) (l3 : Int32), xlpn (fun (B : Int32 × Int32 → Prop) a => lbX9_wayTo_4 Q l0 l1 M (fun l2 l3 => B (l2, l3)) a.1 a.2) n (l2, l3) → xX RX9 cX9_wayTo 4 (some .int) 2 4 [(0, .ref l0), (1, .int l1), (2, .int l2), (3, .int l3)] [] M (xQi (xP M Q)) := by
    intro n
    induction n with
    | zero => intro l2 l3 h; exact False.elim h
    | succ n ih =>
      intro l2 l3 h
      have hB4 := ih
      have h : lbX9_wayTo_4 Q l0 l1 M (fun l2 l3 => xlpn (fun (B : Int32 × Int32 → Prop) a => lbX9_wayTo_4 Q l0 l1 M (fun l2 l3 => B (l2, l3)) a.1 a.2) n (l2, l3)) l2 l3 := h
      unfold lbX9_wayTo_4 at h
      refine x_iload_n dX9_wayTo_4 rfl 5 rfl ?_
      refine x_aload_n dX9_wayTo_5 rfl 6 rfl ?_
      refine gf9_10 dX9_wayTo_6 9 rfl hk_l0 kw1_68 ?_
      refine x_icmp_ge dX9_wayTo_9 55 12 rfl rfl (fun hc => ?_) (fun hc => ?_)
      · have h := h.1 hc
        refine x_iload_n dX9_wayTo_55 rfl 56 rfl ?_
        exact x_iret dX9_wayTo_56 ⟨rfl, h⟩
      · have h := h.2 hc
        refine x_aload_n dX9_wayTo_12 rfl 13 rfl ?_
        refine gf9_2 dX9_wayTo_13 16 rfl hk_l0 kw1_50 ?_
        refine x_iload_n dX9_wayTo_16 rfl 17 rfl ?_
        obtain ⟨hin, h⟩ := h
        refine x_iaload dX9_wayTo_17 (ly9_2 hk_l0) hin 18 rfl ?_
        refine x_iconst dX9_wayTo_18 kc_m1 19 rfl ?_
        refine x_icmp_eq dX9_wayTo_19 49 22 rfl rfl (fun hc => ?_) (fun hc => ?_)
        · have h := h.1 hc
          refine x_iinc dX9_wayTo_49 rfl (congrArg (l3 + ·) kc_1) (Nat.le_of_ble_eq_true rfl) [(0, .ref l0), (1, .int l1), (2, .int l2), (3, .int (l3 + 1))] rfl 52 rfl ?_
          refine x_goto dX9_wayTo_52 4 rfl ?_
          exact hB4 _ _ h
        · have h := h.2 hc
          refine x_aload_n dX9_wayTo_22 rfl 23 rfl ?_
          refine x_iload_n dX9_wayTo_23 rfl 24 rfl ?_
          refine kX9_isPillar dX9_wayTo_24 27 rfl hk_l0 kw3_13 (Nat.le_of_ble_eq_true rfl) (Nat.le_of_ble_eq_true rfl) h (fun r1 h => ?_)
          refine x_if_eq_b dX9_wayTo_27 49 30 rfl rfl (fun hc => ?_) (fun hc => ?_)
          · have h := h.1 hc
            refine x_iinc dX9_wayTo_49 rfl (congrArg (l3 + ·) kc_1) (Nat.le_of_ble_eq_true rfl) [(0, .ref l0), (1, .int l1), (2, .int l2), (3, .int (l3 + 1))] rfl 52 rfl ?_
            refine x_goto dX9_wayTo_52 4 rfl ?_
            exact hB4 _ _ h
          · have h := h.2 hc
            refine x_iload_n dX9_wayTo_30 rfl 31 rfl ?_
            refine x_aload_n dX9_wayTo_31 rfl 32 rfl ?_
            refine gf9_1 dX9_wayTo_32 35 rfl hk_l0 kw1_46 ?_
            refine x_iload_n dX9_wayTo_35 rfl 36 rfl ?_
            obtain ⟨hin, h⟩ := h
            refine x_iaload dX9_wayTo_36 (ly9_1 hk_l0) hin 37 rfl ?_
            refine x_aload_n dX9_wayTo_37 rfl 38 rfl ?_
            refine gf9_1 dX9_wayTo_38 41 rfl hk_l0 kw1_46 ?_
            refine x_iload_n dX9_wayTo_41 rfl 42 rfl ?_
            obtain ⟨hin, h⟩ := h
            refine x_iaload dX9_wayTo_42 (ly9_1 hk_l0) hin 43 rfl ?_
            refine x_isub dX9_wayTo_43 44 rfl ?_
            refine kJ9_abs_0f7a4 dX9_wayTo_44 47 rfl kw5_0 (Nat.le_of_ble_eq_true rfl) (Nat.le_of_ble_eq_true rfl) h (fun r2 h => ?_)
            refine x_iadd dX9_wayTo_47 48 rfl ?_
            refine x_istore_n dX9_wayTo_48 (Nat.le_of_ble_eq_true rfl) [(0, .ref l0), (1, .int l1), (2, .int (l2 + r2)), (3, .int l3)] rfl 49 rfl ?_
            refine x_iinc dX9_wayTo_49 rfl (congrArg (l3 + ·) kc_1) (Nat.le_of_ble_eq_true rfl) [(0, .ref l0), (1, .int l1), (2, .int (l2 + r2)), (3, .int (l3 + 1))] rfl 52 rfl ?_
            refine x_goto dX9_wayTo_52 4 rfl ?_
            exact hB4 _ _ h
  exact hB4 n l2 l3 h
def FX9_wayTo (Q : Int32 → Prop) (l0 : Nat) (l1 : Int32) (M : Mem) : Prop :=
  NX9_wayTo_4 Q l0 l1 0 0 M
theorem eX9_wayTo {Q : Int32 → Prop} {l0 : Nat} {l1 : Int32} {M : Mem} (hk_l0 : SHk l0 = 9) (h : FX9_wayTo Q l0 l1 M) : xX RX9 cX9_wayTo 4 (some .int) 2 0 [(0, .ref l0), (1, .int l1)] [] M (xQi (xP M Q)) := by
  unfold FX9_wayTo at h
  refine x_iconst dX9_wayTo_0 kc_0 1 rfl ?_
  refine x_istore_n dX9_wayTo_1 (Nat.le_of_ble_eq_true rfl) [(0, .ref l0), (1, .int l1), (2, .int 0)] rfl 2 rfl ?_
  refine x_iconst dX9_wayTo_2 kc_0 3 rfl ?_
  refine x_istore_n dX9_wayTo_3 (Nat.le_of_ble_eq_true rfl) [(0, .ref l0), (1, .int l1), (2, .int 0), (3, .int 0)] rfl 4 rfl ?_
  exact nX9_wayTo_4 hk_l0 h
theorem cX9_wayTo_ {Q : Int32 → Prop} {l0 : Nat} {l1 : Int32} {M : Mem} (hk_l0 : SHk l0 = 9) (h : FX9_wayTo Q l0 l1 M) : xM yX9_wayTo cX9_wayTo 4 (some .int) 2 [.ref l0, .int l1] M (xQi (xP M Q)) := xM_of (by decide +kernel) (Nat.le_of_ble_eq_true rfl) (eX9_wayTo hk_l0 h)
theorem kX9_wayTo {own : String} {cc : ByteArray} {nL : Nat} {rt : Option FieldType} {d pc ix : Nat} {L : List (Nat × Value)} {st : List Value} {M : Mem} {Rt : xGt → Array Value → State → Outcome → State → Prop} {Q : Int32 → Prop} {l0 : Nat} {l1 : Int32} (hd : decode cc pc = .ok (.invokevirtual ix, 3)) (q : Nat) (hq : pc + 3 = q) (hk_l0 : SHk l0 = 9) (w1 : Cond.methodLink own ix yX9_wayTo ∈ xTs) (hr : 2 < d) (hst : (st.map fun v => v.category).sum ≤ 8) (h : FX9_wayTo Q l0 l1 M) (k : ∀ (r : Int32), Q r → xX own cc nL rt d q L (.int r :: st) M Rt) : xX own cc nL rt d pc L (.int l1 :: .ref l0 :: st) M Rt :=
  x_callV_i (n := 1) (As := [.int l1]) hd q hq hk_l0 (by decide) rfl rfl w1 kw4_237 kw4_238 kw1_3 kw4_239 (by decide +kernel) rfl hr (by decide) hst _ rfl (cX9_wayTo_ hk_l0 h) (fun r N hN => by obtain ⟨rfl, hN⟩ := hN; exact k r hN)
def NX9_seenFrom_34 (Q : Int32 → Prop) (B7 : Int32 → Int32 → Int32 → Prop) (l0 : Nat) (l1 : Int32) (l2 : Int32) (l3 : Int32) (l4 : Int32) (s0 : Int32) (M : Mem) : Prop :=
  vp_in s0 10 ∧ (((M (l0 + 1) (ix s0)) ≤ l3 → B7 l2 l3 (l4 + 1)) ∧ (¬ (M (l0 + 1) (ix s0)) ≤ l3 → vp_in s0 10 ∧ B7 (l2 + 1) (M (l0 + 1) (ix s0)) (l4 + 1)))
theorem nX9_seenFrom_34 {Q : Int32 → Prop} {B7 : Int32 → Int32 → Int32 → Prop} {l0 : Nat} {l1 : Int32} {l2 : Int32} {l3 : Int32} {l4 : Int32} {s0 : Int32} {M : Mem} (hB7 : ∀ (l2 : Int32) (l3 : Int32) (l4 : Int32), B7 l2 l3 l4 → xX RX9 cX9_seenFrom 6 (some .int) 1 7 [(0, .ref l0), (1, .int l1), (2, .int l2), (3, .int l3), (4, .int l4)] [] M (xQi (xP M Q))) (hk_l0 : SHk l0 = 9) (h : NX9_seenFrom_34 Q B7 l0 l1 l2 l3 l4 s0 M) : xX RX9 cX9_seenFrom 6 (some .int) 1 34 [(0, .ref l0), (1, .int l1), (2, .int l2), (3, .int l3), (4, .int l4)] [.int s0] M (xQi (xP M Q)) := by
  unfold NX9_seenFrom_34 at h
  refine x_istore dX9_seenFrom_34 (Nat.le_of_ble_eq_true rfl) [(0, .ref l0), (1, .int l1), (2, .int l2), (3, .int l3), (4, .int l4), (5, .int s0)] rfl 36 rfl ?_
  refine x_aload_n dX9_seenFrom_36 rfl 37 rfl ?_
  refine gf9_1 dX9_seenFrom_37 40 rfl hk_l0 kw1_46 ?_
  refine x_iload dX9_seenFrom_40 rfl 42 rfl ?_
  obtain ⟨hin, h⟩ := h
  refine x_iaload dX9_seenFrom_42 (ly9_1 hk_l0) hin 43 rfl ?_
  refine x_iload_n dX9_seenFrom_43 rfl 44 rfl ?_
  refine x_icmp_le dX9_seenFrom_44 58 47 rfl rfl (fun hc => ?_) (fun hc => ?_)
  · have h := h.1 hc
    refine x_iinc dX9_seenFrom_58 rfl (congrArg (l4 + ·) kc_1) (Nat.le_of_ble_eq_true rfl) [(0, .ref l0), (1, .int l1), (2, .int l2), (3, .int l3), (4, .int (l4 + 1)), (5, .int s0)] rfl 61 rfl ?_
    refine x_goto dX9_seenFrom_61 7 rfl ?_
    refine x_weak [(0, .ref l0), (1, .int l1), (2, .int l2), (3, .int l3), (4, .int (l4 + 1))] [0, 1, 2, 3, 4] rfl ?_
    exact hB7 _ _ _ h
  · have h := h.2 hc
    refine x_aload_n dX9_seenFrom_47 rfl 48 rfl ?_
    refine gf9_1 dX9_seenFrom_48 51 rfl hk_l0 kw1_46 ?_
    refine x_iload dX9_seenFrom_51 rfl 53 rfl ?_
    obtain ⟨hin, h⟩ := h
    refine x_iaload dX9_seenFrom_53 (ly9_1 hk_l0) hin 54 rfl ?_
    refine x_istore_n dX9_seenFrom_54 (Nat.le_of_ble_eq_true rfl) [(0, .ref l0), (1, .int l1), (2, .int l2), (3, .int (M (l0 + 1) (ix s0))), (4, .int l4), (5, .int s0)] rfl 55 rfl ?_
    refine x_iinc dX9_seenFrom_55 rfl (congrArg (l2 + ·) kc_1) (Nat.le_of_ble_eq_true rfl) [(0, .ref l0), (1, .int l1), (2, .int (l2 + 1)), (3, .int (M (l0 + 1) (ix s0))), (4, .int l4), (5, .int s0)] rfl 58 rfl ?_
    refine x_iinc dX9_seenFrom_58 rfl (congrArg (l4 + ·) kc_1) (Nat.le_of_ble_eq_true rfl) [(0, .ref l0), (1, .int l1), (2, .int (l2 + 1)), (3, .int (M (l0 + 1) (ix s0))), (4, .int (l4 + 1)), (5, .int s0)] rfl 61 rfl ?_
    refine x_goto dX9_seenFrom_61 7 rfl ?_
    refine x_weak [(0, .ref l0), (1, .int l1), (2, .int (l2 + 1)), (3, .int (M (l0 + 1) (ix s0))), (4, .int (l4 + 1))] [0, 1, 2, 3, 4] rfl ?_
    exact hB7 _ _ _ h
def lbX9_seenFrom_7 (Q : Int32 → Prop) (l0 : Nat) (l1 : Int32) (M : Mem) (B7 : Int32 → Int32 → Int32 → Prop) (l2 : Int32) (l3 : Int32) (l4 : Int32) : Prop :=
  (((M l0 10) ≤ l4 → Q l2) ∧ (¬ (M l0 10) ≤ l4 → ((l1 = 0 → NX9_seenFrom_34 Q B7 l0 l1 l2 l3 l4 l4 M) ∧ (¬ l1 = 0 → NX9_seenFrom_34 Q B7 l0 l1 l2 l3 l4 (((M l0 10) - 1) - l4) M))))
def NX9_seenFrom_7 (Q : Int32 → Prop) (l0 : Nat) (l1 : Int32) (l2 : Int32) (l3 : Int32) (l4 : Int32) (M : Mem) : Prop := xlp (fun (B : Int32 × Int32 × Int32 → Prop) a => lbX9_seenFrom_7 Q l0 l1 M (fun l2 l3 l4 => B (l2, l3, l4)) a.1 a.2.1 a.2.2) (l2, l3, l4)
theorem nX9_seenFrom_7 {Q : Int32 → Prop} {l0 : Nat} {l1 : Int32} {l2 : Int32} {l3 : Int32} {l4 : Int32} {M : Mem} (hk_l0 : SHk l0 = 9) (h : NX9_seenFrom_7 Q l0 l1 l2 l3 l4 M) : xX RX9 cX9_seenFrom 6 (some .int) 1 7 [(0, .ref l0), (1, .int l1), (2, .int l2), (3, .int l3), (4, .int l4)] [] M (xQi (xP M Q)) := by
  obtain ⟨n, h⟩ := h
  have hB7 : ∀ (n : Nat) (l2 : Int32) (l3 : Int32) (l4 : Int32), xlpn (fun (B : Int32 × Int32 × Int32 → Prop) a => lbX9_seenFrom_7 Q l0 l1 M (fun l2 l3 l4 => B (l2, l3, l4)) a.1 a.2.1 a.2.2) n (l2, l3, l4) → xX RX9 cX9_seenFrom 6 (some .int) 1 7 [(0, .ref l0), (1, .int l1), (2, .int l2), (3, .int l3), (4, .int l4)] [] M (xQi (xP M Q)) := by
    intro n
    induction n with
    | zero => intro l2 l3 l4 h; exact False.elim h
    | succ n ih =>
      intro l2 l3 l4 h
      have hB7 := ih
      have h : lbX9_seenFrom_7 Q l0 l1 M (fun l2 l3 l4 => xlpn (fun (B : Int32 × Int32 × Int32 → Prop) a => lbX9_seenFrom_7 Q l0 l1 M (fun l2 l3 l4 => B (l2, l3, l4)) a.1 a.2.1 a.2.2) n (l2, l3, l4)) l2 l3 l4 := h
      unfold lbX9_seenFrom_7 at h
      refine x_iload dX9_seenFrom_7 rfl 9 rfl ?_
      refine x_aload_n dX9_seenFrom_9 rfl 10 rfl ?_
      refine gf9_10 dX9_seenFrom_10 13 rfl hk_l0 kw1_68 ?_
      refine x_icmp_ge dX9_seenFrom_13 64 16 rfl rfl (fun hc => ?_) (fun hc => ?_)
      · have h := h.1 hc
        refine x_iload_n dX9_seenFrom_64 rfl 65 rfl ?_
        exact x_iret dX9_seenFrom_65 ⟨rfl, h⟩
      · have h := h.2 hc
        refine x_iload_n dX9_seenFrom_16 rfl 17 rfl ?_
        refine x_if_eq dX9_seenFrom_17 32 20 rfl rfl (fun hc => ?_) (fun hc => ?_)
        · have h := h.1 hc
          refine x_iload dX9_seenFrom_32 rfl 34 rfl ?_
          exact nX9_seenFrom_34 hB7 hk_l0 h
        · have h := h.2 hc
          refine x_aload_n dX9_seenFrom_20 rfl 21 rfl ?_
          refine gf9_10 dX9_seenFrom_21 24 rfl hk_l0 kw1_68 ?_
          refine x_iconst dX9_seenFrom_24 kc_1 25 rfl ?_
          refine x_isub dX9_seenFrom_25 26 rfl ?_
          refine x_iload dX9_seenFrom_26 rfl 28 rfl ?_
          refine x_isub dX9_seenFrom_28 29 rfl ?_
          refine x_goto dX9_seenFrom_29 34 rfl ?_
          exact nX9_seenFrom_34 hB7 hk_l0 h
  exact hB7 n l2 l3 l4 h
def FX9_seenFrom (Q : Int32 → Prop) (l0 : Nat) (l1 : Int32) (M : Mem) : Prop :=
  NX9_seenFrom_7 Q l0 l1 0 0 0 M
theorem eX9_seenFrom {Q : Int32 → Prop} {l0 : Nat} {l1 : Int32} {M : Mem} (hk_l0 : SHk l0 = 9) (h : FX9_seenFrom Q l0 l1 M) : xX RX9 cX9_seenFrom 6 (some .int) 1 0 [(0, .ref l0), (1, .int l1)] [] M (xQi (xP M Q)) := by
  unfold FX9_seenFrom at h
  refine x_iconst dX9_seenFrom_0 kc_0 1 rfl ?_
  refine x_istore_n dX9_seenFrom_1 (Nat.le_of_ble_eq_true rfl) [(0, .ref l0), (1, .int l1), (2, .int 0)] rfl 2 rfl ?_
  refine x_iconst dX9_seenFrom_2 kc_0 3 rfl ?_
  refine x_istore_n dX9_seenFrom_3 (Nat.le_of_ble_eq_true rfl) [(0, .ref l0), (1, .int l1), (2, .int 0), (3, .int 0)] rfl 4 rfl ?_
  refine x_iconst dX9_seenFrom_4 kc_0 5 rfl ?_
  refine x_istore dX9_seenFrom_5 (Nat.le_of_ble_eq_true rfl) [(0, .ref l0), (1, .int l1), (2, .int 0), (3, .int 0), (4, .int 0)] rfl 7 rfl ?_
  exact nX9_seenFrom_7 hk_l0 h
theorem cX9_seenFrom_ {Q : Int32 → Prop} {l0 : Nat} {l1 : Int32} {M : Mem} (hk_l0 : SHk l0 = 9) (h : FX9_seenFrom Q l0 l1 M) : xM yX9_seenFrom cX9_seenFrom 6 (some .int) 1 [.ref l0, .int l1] M (xQi (xP M Q)) := xM_of (by decide +kernel) (Nat.le_of_ble_eq_true rfl) (eX9_seenFrom hk_l0 h)
theorem kX9_seenFrom {own : String} {cc : ByteArray} {nL : Nat} {rt : Option FieldType} {d pc ix : Nat} {L : List (Nat × Value)} {st : List Value} {M : Mem} {Rt : xGt → Array Value → State → Outcome → State → Prop} {Q : Int32 → Prop} {l0 : Nat} {l1 : Int32} (hd : decode cc pc = .ok (.invokevirtual ix, 3)) (q : Nat) (hq : pc + 3 = q) (hk_l0 : SHk l0 = 9) (w1 : Cond.methodLink own ix yX9_seenFrom ∈ xTs) (hr : 1 < d) (hst : (st.map fun v => v.category).sum ≤ 8) (h : FX9_seenFrom Q l0 l1 M) (k : ∀ (r : Int32), Q r → xX own cc nL rt d q L (.int r :: st) M Rt) : xX own cc nL rt d pc L (.int l1 :: .ref l0 :: st) M Rt :=
  x_callV_i (n := 1) (As := [.int l1]) hd q hq hk_l0 (by decide) rfl rfl w1 kw5_40 kw5_41 kw1_3 kw5_42 (by decide +kernel) rfl hr (by decide) hst _ rfl (cX9_seenFrom_ hk_l0 h) (fun r N hN => by obtain ⟨rfl, hN⟩ := hN; exact k r hN)
